/-! a step of AM as an equation, by its instruction -/
/-- place i of row x is v now -/
def zwr (V : zM) (x i v : Int) : zM := zs V x (zu (V x) i v)
def zqw (T : zT) (x i v : Int) : zT := zq T x (zu (zp T x) i v)
def zcp (V : zM) (d s sp dp n : Int) : zM := zs V d (zcpy (V s) (V d) sp dp n)
section ZEV
variable {k pc nx a : Nat} {b : Int} {ts : List Nat} {l st : List zV} {T : zT} {V : zM} {x y i : Int}
theorem ev_ci (h : zcode k pc = some (0, nx, a, b, ts)) (hb : z32 b) : ev k pc l st T V = ev k nx l ((0, b) :: st) T V := ev_go h (by simp only [z_step]; rw [if_pos hb]; rfl)
theorem ev_cl (h : zcode k pc = some (1, nx, a, b, ts)) (hb : z64 b) : ev k pc l st T V = ev k nx l ((1, b) :: st) T V := ev_go h (by simp only [z_step]; rw [if_pos hb]; rfl)
theorem ev_null (h : zcode k pc = some (2, nx, a, b, ts)) : ev k pc l st T V = ev k nx l ((2, -1) :: st) T V := ev_go h rfl
theorem ev_cs (h : zcode k pc = some (3, nx, a, b, ts)) (ha : a < 7) : ev k pc l st T V = ev k nx l ((3, (a : Int)) :: st) T V := ev_go h (by simp only [z_step]; rw [if_pos ha]; rfl)
theorem ev_ldi (h : zcode k pc = some (4, nx, a, b, ts)) (hl : l[a]? = some (0, x)) : ev k pc l st T V = ev k nx l ((0, x) :: st) T V := ev_go h (by simp only [z_step, zo_ld, hl]; rfl)
theorem ev_ldl (h : zcode k pc = some (5, nx, a, b, ts)) (hl : l[a]? = some (1, x)) : ev k pc l st T V = ev k nx l ((1, x) :: st) T V := ev_go h (by simp only [z_step, zo_ld, hl]; rfl)
theorem ev_lda (h : zcode k pc = some (6, nx, a, b, ts)) {t : Nat} (hl : l[a]? = some (t, x)) (ht : 2 ≤ t ∧ t ≤ 6) : ev k pc l st T V = ev k nx l ((t, x) :: st) T V := ev_go h (by simp only [z_step, zo_lda, hl]; rw [if_pos ht]; rfl)
theorem ev_sti (h : zcode k pc = some (7, nx, a, b, ts)) (ha : a < l.length ∧ (a = 0 ∨ (l.getD (a - 1) (9, 0)).1 ≠ 1)) : ev k pc l ((0, x) :: st) T V = ev k nx (l.set a (0, x)) st T V := ev_go h (by simp only [z_step, zo_st1]; rw [if_pos ⟨rfl, ha⟩]; rfl)
theorem ev_stl (h : zcode k pc = some (8, nx, a, b, ts)) (ha : a + 1 < l.length ∧ (a = 0 ∨ (l.getD (a - 1) (9, 0)).1 ≠ 1)) : ev k pc l ((1, x) :: st) T V = ev k nx ((l.set a (1, x)).set (a + 1) (9, 0)) st T V := ev_go h (by simp only [z_step, zo_st2]; rw [if_pos ⟨trivial, ha⟩]; rfl)
theorem ev_sta (h : zcode k pc = some (9, nx, a, b, ts)) (ha : a < l.length ∧ (a = 0 ∨ (l.getD (a - 1) (9, 0)).1 ≠ 1)) : ev k pc l ((2, x) :: st) T V = ev k nx (l.set a (2, x)) st T V := ev_go h (by simp only [z_step, zo_st1]; rw [if_pos ⟨rfl, ha⟩]; rfl)
theorem ev_inc (h : zcode k pc = some (10, nx, a, b, ts)) (hl : l[a]? = some (0, x)) (hr : z32 (x + b)) (ha : a = 0 ∨ (l.getD (a - 1) (9, 0)).1 ≠ 1) : ev k pc l st T V = ev k nx (l.set a (0, x + b)) st T V := ev_go h (by simp only [z_step, zo_inc, hl]; rw [if_pos ⟨trivial, hr, ha⟩]; rfl)
theorem ev_add (h : zcode k pc = some (11, nx, a, b, ts)) (hr : z32 (x + y)) : ev k pc l ((0, y) :: (0, x) :: st) T V = ev k nx l ((0, x + y) :: st) T V := ev_go h (by simp only [z_step, zo_bin]; rw [if_pos ⟨trivial, trivial⟩, if_pos hr]; rfl)
theorem ev_sub (h : zcode k pc = some (12, nx, a, b, ts)) (hr : z32 (x - y)) : ev k pc l ((0, y) :: (0, x) :: st) T V = ev k nx l ((0, x - y) :: st) T V := ev_go h (by simp only [z_step, zo_bin]; rw [if_pos ⟨trivial, trivial⟩, if_pos hr]; rfl)
theorem ev_mul (h : zcode k pc = some (13, nx, a, b, ts)) (hr : z32 (x * y)) : ev k pc l ((0, y) :: (0, x) :: st) T V = ev k nx l ((0, x * y) :: st) T V := ev_go h (by simp only [z_step, zo_bin]; rw [if_pos ⟨trivial, trivial⟩, if_pos hr]; rfl)
theorem ev_and (h : zcode k pc = some (14, nx, a, b, ts)) : ev k pc l ((0, y) :: (0, x) :: st) T V = ev k nx l ((0, zand x y) :: st) T V := ev_go h (by simp only [z_step, zo_bin]; rw [if_pos ⟨trivial, trivial⟩, if_pos trivial]; rfl)
theorem ev_or (h : zcode k pc = some (15, nx, a, b, ts)) : ev k pc l ((0, y) :: (0, x) :: st) T V = ev k nx l ((0, zor x y) :: st) T V := ev_go h (by simp only [z_step, zo_bin]; rw [if_pos ⟨trivial, trivial⟩, if_pos trivial]; rfl)
theorem ev_xor (h : zcode k pc = some (16, nx, a, b, ts)) : ev k pc l ((0, y) :: (0, x) :: st) T V = ev k nx l ((0, zxor x y) :: st) T V := ev_go h (by simp only [z_step, zo_bin]; rw [if_pos ⟨trivial, trivial⟩, if_pos trivial]; rfl)
theorem ev_div (h : zcode k pc = some (17, nx, a, b, ts)) (hr : 0 ≤ x ∧ 0 < y) : ev k pc l ((0, y) :: (0, x) :: st) T V = ev k nx l ((0, x / y) :: st) T V := ev_go h (by simp only [z_step, zo_bin]; rw [if_pos ⟨trivial, trivial⟩, if_pos hr]; rfl)
theorem ev_rem (h : zcode k pc = some (18, nx, a, b, ts)) (hr : 0 ≤ x ∧ 0 < y) : ev k pc l ((0, y) :: (0, x) :: st) T V = ev k nx l ((0, x % y) :: st) T V := ev_go h (by simp only [z_step, zo_bin]; rw [if_pos ⟨trivial, trivial⟩, if_pos hr]; rfl)
theorem ev_neg (h : zcode k pc = some (19, nx, a, b, ts)) (hr : z32 (-x)) : ev k pc l ((0, x) :: st) T V = ev k nx l ((0, -x) :: st) T V := ev_go h (by simp only [z_step, zo_un]; rw [if_pos trivial, if_pos hr]; rfl)
theorem ev_shl (h : zcode k pc = some (20, nx, a, b, ts)) (hr : 0 ≤ y ∧ y < 32 ∧ z32 (x * 2 ^ y.toNat)) : ev k pc l ((0, y) :: (0, x) :: st) T V = ev k nx l ((0, x * 2 ^ y.toNat) :: st) T V := ev_go h (by simp only [z_step, zo_bin]; rw [if_pos ⟨trivial, trivial⟩, if_pos hr]; rfl)
theorem ev_shr (h : zcode k pc = some (21, nx, a, b, ts)) (hr : 0 ≤ y ∧ y < 32) : ev k pc l ((0, y) :: (0, x) :: st) T V = ev k nx l ((0, x / 2 ^ y.toNat) :: st) T V := ev_go h (by simp only [z_step, zo_bin]; rw [if_pos ⟨trivial, trivial⟩, if_pos hr]; rfl)
theorem ev_ushr (h : zcode k pc = some (22, nx, a, b, ts)) (hr : 0 ≤ y ∧ y < 32) : ev k pc l ((0, y) :: (0, x) :: st) T V = ev k nx l ((0, if y = 0 then x else (x % 4294967296) / 2 ^ y.toNat) :: st) T V := ev_go h (by simp only [z_step, zo_bin]; rw [if_pos ⟨trivial, trivial⟩, if_pos hr]; rfl)
theorem ev_ladd (h : zcode k pc = some (23, nx, a, b, ts)) (hr : z64 (x + y)) : ev k pc l ((1, y) :: (1, x) :: st) T V = ev k nx l ((1, x + y) :: st) T V := ev_go h (by simp only [z_step, zo_bin]; rw [if_pos ⟨trivial, trivial⟩, if_pos hr]; rfl)
theorem ev_lsub (h : zcode k pc = some (24, nx, a, b, ts)) (hr : z64 (x - y)) : ev k pc l ((1, y) :: (1, x) :: st) T V = ev k nx l ((1, x - y) :: st) T V := ev_go h (by simp only [z_step, zo_bin]; rw [if_pos ⟨trivial, trivial⟩, if_pos hr]; rfl)
theorem ev_lmul (h : zcode k pc = some (25, nx, a, b, ts)) (hr : z64 (x * y)) : ev k pc l ((1, y) :: (1, x) :: st) T V = ev k nx l ((1, x * y) :: st) T V := ev_go h (by simp only [z_step, zo_bin]; rw [if_pos ⟨trivial, trivial⟩, if_pos hr]; rfl)
theorem ev_land (h : zcode k pc = some (26, nx, a, b, ts)) : ev k pc l ((1, y) :: (1, x) :: st) T V = ev k nx l ((1, zlnd x y) :: st) T V := ev_go h (by simp only [z_step, zo_bin]; rw [if_pos ⟨trivial, trivial⟩, if_pos trivial]; rfl)
theorem ev_lor (h : zcode k pc = some (27, nx, a, b, ts)) : ev k pc l ((1, y) :: (1, x) :: st) T V = ev k nx l ((1, zlor x y) :: st) T V := ev_go h (by simp only [z_step, zo_bin]; rw [if_pos ⟨trivial, trivial⟩, if_pos trivial]; rfl)
theorem ev_lrem (h : zcode k pc = some (28, nx, a, b, ts)) (hr : 0 ≤ x ∧ 0 < y) : ev k pc l ((1, y) :: (1, x) :: st) T V = ev k nx l ((1, x % y) :: st) T V := ev_go h (by simp only [z_step, zo_bin]; rw [if_pos ⟨trivial, trivial⟩, if_pos hr]; rfl)
theorem ev_lshl (h : zcode k pc = some (29, nx, a, b, ts)) (hr : 0 ≤ y ∧ y < 64 ∧ z64 (x * 2 ^ y.toNat)) : ev k pc l ((0, y) :: (1, x) :: st) T V = ev k nx l ((1, x * 2 ^ y.toNat) :: st) T V := ev_go h (by simp only [z_step, zo_lsh]; rw [if_pos ⟨trivial, trivial⟩, if_pos hr]; rfl)
theorem ev_lshr (h : zcode k pc = some (30, nx, a, b, ts)) (hr : 0 ≤ y ∧ y < 64) : ev k pc l ((0, y) :: (1, x) :: st) T V = ev k nx l ((1, x / 2 ^ y.toNat) :: st) T V := ev_go h (by simp only [z_step, zo_lsh]; rw [if_pos ⟨trivial, trivial⟩, if_pos hr]; rfl)
theorem ev_lcmp (h : zcode k pc = some (31, nx, a, b, ts)) : ev k pc l ((1, y) :: (1, x) :: st) T V = ev k nx l ((0, if y < x then 1 else if x = y then 0 else -1) :: st) T V := ev_go h (by simp only [z_step, zo_cmp]; rw [if_pos ⟨trivial, trivial⟩]; rfl)
theorem ev_i2l (h : zcode k pc = some (32, nx, a, b, ts)) : ev k pc l ((0, x) :: st) T V = ev k nx l ((1, x) :: st) T V := ev_go h (by simp only [z_step, zo_un]; rw [if_pos trivial, if_pos trivial]; rfl)
theorem ev_l2i (h : zcode k pc = some (33, nx, a, b, ts)) (hr : z32 x) : ev k pc l ((1, x) :: st) T V = ev k nx l ((0, x) :: st) T V := ev_go h (by simp only [z_step, zo_un]; rw [if_pos trivial, if_pos hr]; rfl)
theorem ev_i2b (h : zcode k pc = some (34, nx, a, b, ts)) : ev k pc l ((0, x) :: st) T V = ev k nx l ((0, (x + 128) % 256 - 128) :: st) T V := ev_go h (by simp only [z_step, zo_un]; rw [if_pos trivial, if_pos trivial]; rfl)
theorem ev_i2c (h : zcode k pc = some (35, nx, a, b, ts)) (hr : 0 ≤ x ∧ x ≤ 65535) : ev k pc l ((0, x) :: st) T V = ev k nx l ((0, x) :: st) T V := ev_go h (by simp only [z_step, zo_un]; rw [if_pos trivial, if_pos hr]; rfl)
theorem ev_dup (h : zcode k pc = some (36, nx, a, b, ts)) {t : Nat} (ht : t = 0 ∨ t = 2) : ev k pc l ((t, x) :: st) T V = ev k nx l ((t, x) :: (t, x) :: st) T V := ev_go h (by simp only [z_step, zo_dup]; rw [if_pos ht]; rfl)
theorem ev_pop (h : zcode k pc = some (37, nx, a, b, ts)) {t : Nat} (ht : t = 0 ∨ t = 2) : ev k pc l ((t, x) :: st) T V = ev k nx l st T V := ev_go h (by simp only [z_step, zo_pop]; rw [if_pos ht]; rfl)
theorem ev_dup2 (h : zcode k pc = some (38, nx, a, b, ts)) {t u : Nat} (ht : (t = 0 ∨ t = 2) ∧ (u = 0 ∨ u = 2)) : ev k pc l ((t, y) :: (u, x) :: st) T V = ev k nx l ((t, y) :: (u, x) :: (t, y) :: (u, x) :: st) T V := ev_go h (by simp only [z_step, zo_dup2]; rw [if_pos ht]; rfl)
theorem ev_if1 {op : Nat} {g : Int → Prop} {dg : ∀ x, Decidable (g x)} (h : zcode k pc = some (op, nx, a, b, ts)) (hz : z_step (op, nx, a, b, ts) l ((0, x) :: st) T V = zo_if1 g dg nx a l ((0, x) :: st) T V) : ev k pc l ((0, x) :: st) T V = @ite _ (g x) (dg x) (ev k a l st T V) (ev k nx l st T V) := by
  by_cases hg : g x
  · rw [if_pos hg]; exact ev_go h (by rw [hz]; simp only [zo_if1]; rw [if_pos trivial, if_pos hg]; rfl)
  · rw [if_neg hg]; exact ev_go h (by rw [hz]; simp only [zo_if1]; rw [if_pos trivial, if_neg hg]; rfl)
theorem ev_eq (h : zcode k pc = some (40, nx, a, b, ts)) : ev k pc l ((0, x) :: st) T V = if x = 0 then ev k a l st T V else ev k nx l st T V := ev_if1 (g := fun x => x = 0) (dg := fun _ => inferInstance) h rfl
theorem ev_ne (h : zcode k pc = some (41, nx, a, b, ts)) : ev k pc l ((0, x) :: st) T V = if x = 0 then ev k nx l st T V else ev k a l st T V := by
  rw [ev_if1 (g := fun x => ¬ x = 0) (dg := fun _ => inferInstance) h rfl]
  by_cases hx : x = 0 <;> simp [hx]
theorem ev_lt (h : zcode k pc = some (42, nx, a, b, ts)) : ev k pc l ((0, x) :: st) T V = if x < 0 then ev k a l st T V else ev k nx l st T V := ev_if1 (g := fun x => x < 0) (dg := fun _ => inferInstance) h rfl
theorem ev_ge (h : zcode k pc = some (43, nx, a, b, ts)) : ev k pc l ((0, x) :: st) T V = if 0 ≤ x then ev k a l st T V else ev k nx l st T V := ev_if1 (g := fun x => 0 ≤ x) (dg := fun _ => inferInstance) h rfl
theorem ev_gt (h : zcode k pc = some (44, nx, a, b, ts)) : ev k pc l ((0, x) :: st) T V = if 0 < x then ev k a l st T V else ev k nx l st T V := ev_if1 (g := fun x => 0 < x) (dg := fun _ => inferInstance) h rfl
theorem ev_le (h : zcode k pc = some (45, nx, a, b, ts)) : ev k pc l ((0, x) :: st) T V = if x ≤ 0 then ev k a l st T V else ev k nx l st T V := ev_if1 (g := fun x => x ≤ 0) (dg := fun _ => inferInstance) h rfl
theorem ev_if2 {op : Nat} {g : Int → Int → Prop} {dg : ∀ x y, Decidable (g x y)} (h : zcode k pc = some (op, nx, a, b, ts)) (hz : z_step (op, nx, a, b, ts) l ((0, y) :: (0, x) :: st) T V = zo_if2 g dg nx a l ((0, y) :: (0, x) :: st) T V) : ev k pc l ((0, y) :: (0, x) :: st) T V = @ite _ (g x y) (dg x y) (ev k a l st T V) (ev k nx l st T V) := by
  by_cases hg : g x y
  · rw [if_pos hg]; exact ev_go h (by rw [hz]; simp only [zo_if2]; rw [if_pos ⟨trivial, trivial⟩, if_pos hg]; rfl)
  · rw [if_neg hg]; exact ev_go h (by rw [hz]; simp only [zo_if2]; rw [if_pos ⟨trivial, trivial⟩, if_neg hg]; rfl)
theorem ev_ceq (h : zcode k pc = some (46, nx, a, b, ts)) : ev k pc l ((0, y) :: (0, x) :: st) T V = if x = y then ev k a l st T V else ev k nx l st T V := ev_if2 (g := fun x y => x = y) (dg := fun _ _ => inferInstance) h rfl
theorem ev_cne (h : zcode k pc = some (47, nx, a, b, ts)) : ev k pc l ((0, y) :: (0, x) :: st) T V = if x = y then ev k nx l st T V else ev k a l st T V := by
  rw [ev_if2 (g := fun x y => ¬ x = y) (dg := fun _ _ => inferInstance) h rfl]
  by_cases hx : x = y <;> simp [hx]
theorem ev_clt (h : zcode k pc = some (48, nx, a, b, ts)) : ev k pc l ((0, y) :: (0, x) :: st) T V = if x < y then ev k a l st T V else ev k nx l st T V := ev_if2 (g := fun x y => x < y) (dg := fun _ _ => inferInstance) h rfl
theorem ev_cge (h : zcode k pc = some (49, nx, a, b, ts)) : ev k pc l ((0, y) :: (0, x) :: st) T V = if y ≤ x then ev k a l st T V else ev k nx l st T V := ev_if2 (g := fun x y => y ≤ x) (dg := fun _ _ => inferInstance) h rfl
theorem ev_cgt (h : zcode k pc = some (50, nx, a, b, ts)) : ev k pc l ((0, y) :: (0, x) :: st) T V = if y < x then ev k a l st T V else ev k nx l st T V := ev_if2 (g := fun x y => y < x) (dg := fun _ _ => inferInstance) h rfl
theorem ev_cle (h : zcode k pc = some (51, nx, a, b, ts)) : ev k pc l ((0, y) :: (0, x) :: st) T V = if x ≤ y then ev k a l st T V else ev k nx l st T V := ev_if2 (g := fun x y => x ≤ y) (dg := fun _ _ => inferInstance) h rfl
theorem ev_nn (h : zcode k pc = some (52, nx, a, b, ts)) : ev k pc l ((2, x) :: st) T V = if 0 ≤ x then ev k a l st T V else ev k nx l st T V := by
  by_cases hg : 0 ≤ x
  · rw [if_pos hg]; exact ev_go h (by simp only [z_step, zo_nn]; rw [if_pos trivial, if_pos hg]; rfl)
  · rw [if_neg hg]; exact ev_go h (by simp only [z_step, zo_nn]; rw [if_pos trivial, if_neg hg]; rfl)
theorem ev_goto (h : zcode k pc = some (53, nx, a, b, ts)) : ev k pc l st T V = ev k a l st T V := ev_go h rfl
theorem ev_sw (h : zcode k pc = some (54, nx, a, b, ts)) : ev k pc l ((0, x) :: st) T V = ev k (if b ≤ x ∧ x < b + (ts.length : Int) - 1 then ts.getD ((x - b).toNat + 1) 0 else ts.getD 0 0) l st T V := by
  by_cases hg : b ≤ x ∧ x < b + (ts.length : Int) - 1
  · rw [if_pos hg]; exact ev_go h (by simp only [z_step, zo_sw]; rw [if_pos trivial, if_pos hg]; rfl)
  · rw [if_neg hg]; exact ev_go h (by simp only [z_step, zo_sw]; rw [if_pos trivial, if_neg hg]; rfl)
/-- an object of class c, an array of kind c and length n -/
def zO (T : zT) (x c : Int) : Prop := 0 ≤ x ∧ x < zsz T ∧ zc T x = c + 10
def zAr (T : zT) (x c n : Int) : Prop := (0 ≤ x ∧ x < zsz T ∧ zc T x = c) ∧ zl T x = n
theorem ev_gi (h : zcode k pc = some (55, nx, a, b, ts)) (hx : zO T x (a : Int)) : ev k pc l ((2, x) :: st) T V = ev k nx l ((0, V x b) :: st) T V := ev_go h (by simp only [z_step, zo_get]; rw [if_pos ⟨trivial, hx⟩]; rfl)
theorem ev_gr (h : zcode k pc = some (56, nx, a, b, ts)) (hx : zO T x (a : Int)) : ev k pc l ((2, x) :: st) T V = ev k nx l ((2, zp T x b) :: st) T V := ev_go h (by simp only [z_step, zo_get]; rw [if_pos ⟨trivial, hx⟩]; rfl)
theorem ev_gq (h : zcode k pc = some (56, nx, a, b, ts)) (hx : zO T x (a : Int)) (hq : zp T x b = y) : ev k pc l ((2, x) :: st) T V = ev k nx l ((2, y) :: st) T V := by rw [ev_gr h hx, hq]
theorem ev_pi (h : zcode k pc = some (57, nx, a, b, ts)) (hx : zO T x (a : Int)) : ev k pc l ((0, y) :: (2, x) :: st) T V = ev k nx l st T (zwr V x b y) := ev_go h (by simp only [z_step, zo_put]; rw [if_pos ⟨⟨trivial, trivial⟩, hx⟩, if_pos trivial]; rfl)
theorem ev_pz (h : zcode k pc = some (58, nx, a, b, ts)) (hx : zO T x (a : Int)) (hy : 0 ≤ y ∧ y ≤ 1) : ev k pc l ((0, y) :: (2, x) :: st) T V = ev k nx l st T (zwr V x b y) := ev_go h (by simp only [z_step, zo_put]; rw [if_pos ⟨⟨trivial, trivial⟩, hx⟩, if_pos hy]; rfl)
theorem ev_pr (h : zcode k pc = some (59, nx, a, b, ts)) (hx : zO T x (a : Int)) : ev k pc l ((2, y) :: (2, x) :: st) T V = ev k nx l st (zqw T x b y) V := ev_go h (by simp only [z_step, zo_putr]; rw [if_pos ⟨⟨trivial, trivial⟩, hx⟩]; rfl)
theorem ev_scr (h : zcode k pc = some (60, nx, a, b, ts)) (hi : 0 ≤ i ∧ i < zl T (-2)) : ev k pc l ((0, i) :: (4, x) :: st) T V = ev k nx l ((0, V (-2) i) :: st) T V := ev_go h (by simp only [z_step, zo_ild]; rw [if_pos trivial, if_pos ⟨trivial, hi⟩]; rfl)
theorem ev_ia (h : zcode k pc = some (60, nx, a, b, ts)) {n : Int} (hx : zAr T x 0 n) (hi : 0 ≤ i ∧ i < n) : ev k pc l ((0, i) :: (2, x) :: st) T V = ev k nx l ((0, V x i) :: st) T V := ev_go h (by obtain ⟨h1, h2⟩ := hx; rw [← h2] at hi; simp only [z_step, zo_ild]; rw [if_neg (by decide)]; simp only [zo_ald]; rw [if_pos ⟨⟨trivial, trivial⟩, h1, hi⟩]; rfl)
theorem ev_la (h : zcode k pc = some (61, nx, a, b, ts)) {n : Int} (hx : zAr T x 1 n) (hi : 0 ≤ i ∧ i < n) : ev k pc l ((0, i) :: (2, x) :: st) T V = ev k nx l ((1, V x i) :: st) T V := ev_go h (by obtain ⟨h1, h2⟩ := hx; rw [← h2] at hi; simp only [z_step, zo_ald]; rw [if_pos ⟨⟨trivial, trivial⟩, h1, hi⟩]; rfl)
theorem ev_za (h : zcode k pc = some (62, nx, a, b, ts)) {n : Int} (hx : zAr T x 3 n) (hi : 0 ≤ i ∧ i < n) : ev k pc l ((0, i) :: (2, x) :: st) T V = ev k nx l ((0, V x i) :: st) T V := ev_go h (by obtain ⟨h1, h2⟩ := hx; rw [← h2] at hi; simp only [z_step, zo_bld]; rw [if_neg (by decide), if_pos ⟨trivial, h1.2.2⟩]; simp only [zo_ald]; rw [if_pos ⟨⟨trivial, trivial⟩, h1, hi⟩]; rfl)
theorem ev_ba (h : zcode k pc = some (62, nx, a, b, ts)) {n : Int} (hx : zAr T x 2 n) (hi : 0 ≤ i ∧ i < n) : ev k pc l ((0, i) :: (2, x) :: st) T V = ev k nx l ((0, V x i) :: st) T V := ev_go h (by obtain ⟨h1, h2⟩ := hx; rw [← h2] at hi; simp only [z_step, zo_bld]; rw [if_neg (by decide), if_neg (by rw [h1.2.2]; decide)]; simp only [zo_ald]; rw [if_pos ⟨⟨trivial, trivial⟩, h1, hi⟩]; rfl)
theorem ev_ca (h : zcode k pc = some (62, nx, a, b, ts)) (hx : 0 ≤ x ∧ x < 7) (hi : 0 ≤ i ∧ i < ((z_str x).length : Int)) : ev k pc l ((0, i) :: (5, x) :: st) T V = ev k nx l ((0, (z_str x).getD i.toNat 0) :: st) T V := ev_go h (by simp only [z_step, zo_bld]; rw [if_pos trivial, if_pos ⟨trivial, hx, hi⟩]; rfl)
theorem ev_qa (h : zcode k pc = some (63, nx, a, b, ts)) {n : Int} (hx : zAr T x 4 n) (hi : 0 ≤ i ∧ i < n) : ev k pc l ((0, i) :: (2, x) :: st) T V = ev k nx l ((2, zp T x i) :: st) T V := ev_go h (by obtain ⟨h1, h2⟩ := hx; rw [← h2] at hi; simp only [z_step, zo_ald]; rw [if_pos ⟨⟨trivial, trivial⟩, h1, hi⟩]; rfl)
theorem ev_is (h : zcode k pc = some (64, nx, a, b, ts)) {n : Int} (hx : zAr T x 0 n) (hi : 0 ≤ i ∧ i < n) : ev k pc l ((0, y) :: (0, i) :: (2, x) :: st) T V = ev k nx l st T (zwr V x i y) := ev_go h (by obtain ⟨h1, h2⟩ := hx; rw [← h2] at hi; simp only [z_step, zo_ast]; rw [if_pos ⟨⟨trivial, trivial, trivial⟩, h1, hi⟩, if_pos trivial]; rfl)
theorem ev_ls (h : zcode k pc = some (65, nx, a, b, ts)) {n : Int} (hx : zAr T x 1 n) (hi : 0 ≤ i ∧ i < n) : ev k pc l ((1, y) :: (0, i) :: (2, x) :: st) T V = ev k nx l st T (zwr V x i y) := ev_go h (by obtain ⟨h1, h2⟩ := hx; rw [← h2] at hi; simp only [z_step, zo_ast]; rw [if_pos ⟨⟨trivial, trivial, trivial⟩, h1, hi⟩, if_pos trivial]; rfl)
theorem ev_zs (h : zcode k pc = some (66, nx, a, b, ts)) {n : Int} (hx : zAr T x 3 n) (hi : 0 ≤ i ∧ i < n) (hy : 0 ≤ y ∧ y ≤ 1) : ev k pc l ((0, y) :: (0, i) :: (2, x) :: st) T V = ev k nx l st T (zwr V x i y) := ev_go h (by obtain ⟨h1, h2⟩ := hx; rw [← h2] at hi; simp only [z_step, zo_bst]; rw [if_pos h1.2.2]; simp only [zo_ast]; rw [if_pos ⟨⟨trivial, trivial, trivial⟩, h1, hi⟩, if_pos hy]; rfl)
theorem ev_bs (h : zcode k pc = some (66, nx, a, b, ts)) {n : Int} (hx : zAr T x 2 n) (hi : 0 ≤ i ∧ i < n) (hy : -128 ≤ y ∧ y ≤ 127) : ev k pc l ((0, y) :: (0, i) :: (2, x) :: st) T V = ev k nx l st T (zwr V x i y) := ev_go h (by obtain ⟨h1, h2⟩ := hx; rw [← h2] at hi; simp only [z_step, zo_bst]; rw [if_neg (by rw [h1.2.2]; decide)]; simp only [zo_ast]; rw [if_pos ⟨⟨trivial, trivial, trivial⟩, h1, hi⟩, if_pos hy]; rfl)
theorem ev_qs (h : zcode k pc = some (67, nx, a, b, ts)) {n : Int} (hx : zAr T x 4 n) (hi : 0 ≤ i ∧ i < n) (hy : zO T y 6) : ev k pc l ((2, y) :: (0, i) :: (2, x) :: st) T V = ev k nx l st (zqw T x i y) V := ev_go h (by obtain ⟨h1, h2⟩ := hx; rw [← h2] at hi; simp only [z_step, zo_qst]; rw [if_pos ⟨⟨trivial, trivial, trivial⟩, hy, h1, hi⟩]; rfl)
theorem ev_slen (h : zcode k pc = some (68, nx, a, b, ts)) : ev k pc l ((4, x) :: st) T V = ev k nx l ((0, zl T (-2)) :: st) T V := ev_go h (by simp only [z_step, zo_len]; rw [if_pos trivial]; rfl)
theorem ev_clen (h : zcode k pc = some (68, nx, a, b, ts)) (hx : 0 ≤ x ∧ x < 7) : ev k pc l ((5, x) :: st) T V = ev k nx l ((0, ((z_str x).length : Int)) :: st) T V := ev_go h (by simp only [z_step, zo_len]; rw [if_neg (by decide), if_pos trivial, if_pos hx]; rfl)
theorem ev_len (h : zcode k pc = some (68, nx, a, b, ts)) {n c : Int} (hx : zAr T x c n) (hc : 0 ≤ c ∧ c ≤ 4) : ev k pc l ((2, x) :: st) T V = ev k nx l ((0, n) :: st) T V := ev_go h (by obtain ⟨⟨h1, h2, h3⟩, h4⟩ := hx; rw [← h4]; rw [← h3] at hc; simp only [z_step, zo_len]; rw [if_neg (by decide), if_neg (by decide), if_pos ⟨trivial, ⟨h1, h2⟩, hc⟩]; rfl)
theorem ev_new (h : zcode k pc = some (69, nx, a, b, ts)) (ha : a < 13) : ev k pc l st T V = ev k nx l ((2, zsz T) :: st) (zn T ((a : Int) + 10) (zfN a : Int)) (zs V (zsz T) (fun _ => 0)) := ev_go h (by simp only [z_step, zo_new]; rw [if_pos ha]; rfl)
theorem ev_narr (h : zcode k pc = some (70, nx, a, b, ts)) (hx : 0 ≤ x ∧ x ≤ 1000000) : ev k pc l ((0, x) :: st) T V = ev k nx l ((2, zsz T) :: st) (zn T (a : Int) x) (zs V (zsz T) (fun _ => 0)) := ev_go h (by simp only [z_step, zo_nar]; rw [if_pos ⟨trivial, hx⟩]; rfl)
theorem ev_anew (h : zcode k pc = some (71, nx, a, b, ts)) (hx : 0 ≤ x ∧ x ≤ 1000000) : ev k pc l ((0, x) :: st) T V = ev k nx l ((2, zsz T) :: st) (zn T 4 x) (zs V (zsz T) (fun _ => 0)) := ev_go h (by simp only [z_step, zo_nar]; rw [if_pos ⟨trivial, hx⟩]; rfl)
theorem ev_rv (h : zcode k pc = some (72, nx, a, b, ts)) {t : Nat} (hx : (a = 0 ∧ t = 0) ∨ (a = 1 ∧ t = 1) ∨ (a = 2 ∧ t = 2) ∨ (a = 3 ∧ t = 0 ∧ 0 ≤ x ∧ x ≤ 1) ∨ (a = 4 ∧ t = 0 ∧ -128 ≤ x ∧ x ≤ 127) ∨ (a = 5 ∧ t = 0 ∧ 0 ≤ x ∧ x ≤ 65535)) : ev k pc l [(t, x)] T V = some ((t, x), T, V) := ev_end h (by simp only [z_step, zo_ret]; rw [if_pos hx])
theorem ev_rz (h : zcode k pc = some (72, nx, 3, b, ts)) (hx : 0 ≤ x ∧ x ≤ 1) : ev k pc l [(0, x)] T V = some ((0, x), T, V) := ev_rv h (Or.inr (Or.inr (Or.inr (Or.inl ⟨rfl, rfl, hx⟩))))
theorem ev_rb (h : zcode k pc = some (72, nx, 4, b, ts)) (hx : -128 ≤ x ∧ x ≤ 127) : ev k pc l [(0, x)] T V = some ((0, x), T, V) := ev_rv h (Or.inr (Or.inr (Or.inr (Or.inr (Or.inl ⟨rfl, rfl, hx⟩)))))
theorem ev_rc (h : zcode k pc = some (72, nx, 5, b, ts)) (hx : 0 ≤ x ∧ x ≤ 65535) : ev k pc l [(0, x)] T V = some ((0, x), T, V) := ev_rv h (Or.inr (Or.inr (Or.inr (Or.inr (Or.inr ⟨rfl, rfl, hx⟩)))))
theorem ev_ri (h : zcode k pc = some (72, nx, 0, b, ts)) : ev k pc l [(0, x)] T V = some ((0, x), T, V) := ev_rv h (Or.inl ⟨rfl, rfl⟩)
theorem ev_rl (h : zcode k pc = some (72, nx, 1, b, ts)) : ev k pc l [(1, x)] T V = some ((1, x), T, V) := ev_rv h (Or.inr (Or.inl ⟨rfl, rfl⟩))
theorem ev_rr (h : zcode k pc = some (72, nx, 2, b, ts)) : ev k pc l [(2, x)] T V = some ((2, x), T, V) := ev_rv h (Or.inr (Or.inr (Or.inl ⟨rfl, rfl⟩)))
theorem ev_rn (h : zcode k pc = some (73, nx, a, b, ts)) : ev k pc l [] T V = some ((9, 0), T, V) := ev_end h rfl
/-- calls: the arguments, and what is left -/
theorem ev_cstat {args rest : List zV} (h : zcode k pc = some (74, nx, a, b, ts)) (hst : st = args.reverse ++ rest) (hb : b.toNat = args.length) (hc : zcat rest ≤ 8) (hl : zlv a < zlv k ∧ (z_sp args).length ≤ zmL a) : ev k pc l st T V = (zcall a args T V).bind fun x => ev k nx l (z_push x.1 rest) x.2.1 x.2.2 := by
  subst hst
  have e1 : (args.reverse ++ rest).take b.toNat = args.reverse := by rw [hb, ← List.length_reverse]; exact List.take_left
  have e2 : (args.reverse ++ rest).drop b.toNat = rest := by rw [hb, ← List.length_reverse]; exact List.drop_left
  refine ev_call h ?_ hl
  simp only [z_step, zo_call]
  rw [e1, e2, List.reverse_reverse, if_pos ⟨by rw [hb, List.length_append, List.length_reverse]; omega, hc⟩]
theorem ev_cspec {args rest : List zV} (h : zcode k pc = some (75, nx, a, b, ts)) (hst : st = ((2, x) :: args).reverse ++ rest) (hx : 0 ≤ x) (hb : b.toNat = args.length + 1) (hc : zcat rest ≤ 8) (hl : zlv a < zlv k ∧ (z_sp ((2, x) :: args)).length ≤ zmL a) : ev k pc l st T V = (zcall a ((2, x) :: args) T V).bind fun x => ev k nx l (z_push x.1 rest) x.2.1 x.2.2 := by
  subst hst
  have e1 : (((2, x) :: args).reverse ++ rest).take b.toNat = ((2, x) :: args).reverse := by rw [hb, ← List.length_cons (a := ((2 : Nat), x)), ← List.length_reverse]; exact List.take_left
  have e2 : (((2, x) :: args).reverse ++ rest).drop b.toNat = rest := by rw [hb, ← List.length_cons (a := ((2 : Nat), x)), ← List.length_reverse]; exact List.drop_left
  refine ev_call h ?_ hl
  simp only [z_step, zo_callI]
  rw [e1, List.reverse_reverse]
  simp only
  rw [if_pos ⟨trivial, hx⟩]
  simp only [zo_call]
  rw [e1, e2, List.reverse_reverse, if_pos ⟨by rw [hb, List.length_append, List.length_reverse, List.length_cons]; omega, hc⟩]
theorem ev_cvirt {args rest : List zV} {c : Nat} (h : zcode k pc = some (76, nx, a, b, [c])) (hst : st = ((2, x) :: args).reverse ++ rest) (hx : zO T x (c : Int)) (hb : b.toNat = args.length + 1) (hc : zcat rest ≤ 8) (hl : zlv a < zlv k ∧ (z_sp ((2, x) :: args)).length ≤ zmL a) : ev k pc l st T V = (zcall a ((2, x) :: args) T V).bind fun x => ev k nx l (z_push x.1 rest) x.2.1 x.2.2 := by
  subst hst
  have e1 : (((2, x) :: args).reverse ++ rest).take b.toNat = ((2, x) :: args).reverse := by rw [hb, ← List.length_cons (a := ((2 : Nat), x)), ← List.length_reverse]; exact List.take_left
  have e2 : (((2, x) :: args).reverse ++ rest).drop b.toNat = rest := by rw [hb, ← List.length_cons (a := ((2 : Nat), x)), ← List.length_reverse]; exact List.drop_left
  refine ev_call h ?_ hl
  simp only [z_step, zo_callV]
  rw [e1, List.reverse_reverse]
  simp only
  rw [if_pos ⟨trivial, hx⟩]
  simp only [zo_call]
  rw [e1, e2, List.reverse_reverse, if_pos ⟨by rw [hb, List.length_append, List.length_reverse, List.length_cons]; omega, hc⟩]
theorem ev_cstr {args rest : List zV} (h : zcode k pc = some (77, nx, a, b, ts)) (hst : st = ((3, x) :: args).reverse ++ rest) (hx : 0 ≤ x ∧ x < 7) (hb : b.toNat = args.length + 1) (hc : zcat rest ≤ 8) (hl : zlv a < zlv k ∧ (z_sp ((3, x) :: args)).length ≤ zmL a) : ev k pc l st T V = (zcall a ((3, x) :: args) T V).bind fun x => ev k nx l (z_push x.1 rest) x.2.1 x.2.2 := by
  subst hst
  have e1 : (((3, x) :: args).reverse ++ rest).take b.toNat = ((3, x) :: args).reverse := by rw [hb, ← List.length_cons (a := ((3 : Nat), x)), ← List.length_reverse]; exact List.take_left
  have e2 : (((3, x) :: args).reverse ++ rest).drop b.toNat = rest := by rw [hb, ← List.length_cons (a := ((3 : Nat), x)), ← List.length_reverse]; exact List.drop_left
  refine ev_call h ?_ hl
  simp only [z_step, zo_callS]
  rw [e1, List.reverse_reverse]
  simp only
  rw [if_pos ⟨trivial, hx⟩]
  simp only [zo_call]
  rw [e1, e2, List.reverse_reverse, if_pos ⟨by rw [hb, List.length_append, List.length_reverse, List.length_cons]; omega, hc⟩]
theorem ev_obj (h : zcode k pc = some (78, nx, a, b, ts)) (hx : 0 ≤ x ∧ zcat st ≤ 8) : ev k pc l ((2, x) :: st) T V = ev k nx l st T V := ev_go h (by simp only [z_step, zo_obj]; rw [if_pos ⟨trivial, hx⟩]; rfl)
theorem ev_cpyi (h : zcode k pc = some (79, nx, a, b, ts)) {n dp d sp s nd ns c : Int} (hc : c = 0 ∨ c = 1) (hs : zAr T s c ns) (hd : zAr T d c nd) (hne : s ≠ d) (hr : 0 ≤ n ∧ 0 ≤ sp ∧ 0 ≤ dp ∧ sp + n ≤ ns ∧ dp + n ≤ nd) (hq : zcat st ≤ 8) : ev k pc l ((0, n) :: (0, dp) :: (2, d) :: (0, sp) :: (2, s) :: st) T V = ev k nx l st T (zcp V d s sp dp n) := ev_go h (by
  obtain ⟨⟨h1, h2, h3⟩, h4⟩ := hs
  obtain ⟨⟨g1, g2, g3⟩, g4⟩ := hd
  rw [← h4, ← g4] at hr
  rw [← h3] at hc
  simp only [z_step, zo_cpy]
  rw [if_pos ⟨⟨trivial, trivial, trivial, trivial, trivial⟩, ⟨h1, h2, g1, g2⟩, ⟨by rw [h3, g3], hc⟩, hne, hr, hq⟩]; rfl)
theorem ev_cst (h : zcode k pc = some (80, nx, a, b, ts)) : ev k pc l st T V = ev k nx l ((0, 1) :: st) T V := ev_go h rfl
theorem ev_fst (h : zcode k pc = some (81, nx, a, b, ts)) : ev k pc l st T V = ev k nx l ((6, 0) :: st) T V := ev_go h rfl
theorem ev_strv (h : zcode k pc = some (82, nx, a, b, ts)) (hx : 0 ≤ x ∧ x < 7) : ev k pc l ((3, x) :: st) T V = ev k nx l ((5, x) :: st) T V := ev_go h (by simp only [z_step, zo_strv]; rw [if_pos ⟨trivial, hx⟩]; rfl)
theorem ev_strc (h : zcode k pc = some (83, nx, a, b, ts)) (hx : 0 ≤ x ∧ x < 7) : ev k pc l ((3, x) :: st) T V = ev k nx l ((0, 0) :: st) T V := ev_go h (by simp only [z_step, zo_strc]; rw [if_pos ⟨trivial, hx⟩]; rfl)
theorem ev_max (h : zcode k pc = some (84, nx, a, b, ts)) (hc : zcat st ≤ 8) : ev k pc l ((0, y) :: (0, x) :: st) T V = ev k nx l ((0, max x y) :: st) T V := ev_go h (by simp only [z_step, zo_mm]; rw [if_pos ⟨trivial, trivial, hc⟩]; rfl)
theorem ev_min (h : zcode k pc = some (85, nx, a, b, ts)) (hc : zcat st ≤ 8) : ev k pc l ((0, y) :: (0, x) :: st) T V = ev k nx l ((0, min x y) :: st) T V := ev_go h (by simp only [z_step, zo_mm]; rw [if_pos ⟨trivial, trivial, hc⟩]; rfl)
theorem ev_minl (h : zcode k pc = some (86, nx, a, b, ts)) (hc : zcat st ≤ 8) : ev k pc l ((1, y) :: (1, x) :: st) T V = ev k nx l ((1, min x y) :: st) T V := ev_go h (by simp only [z_step, zo_mm]; rw [if_pos ⟨trivial, trivial, hc⟩]; rfl)
theorem ev_shl1 (h : zcode k pc = some (20, nx, a, b, ts)) (hr : 0 ≤ y ∧ y ≤ 30) : ev k pc l ((0, y) :: (0, 1) :: st) T V = ev k nx l ((0, 2 ^ y.toNat) :: st) T V := by
  have hp : (2 : Int) ^ y.toNat ≤ 2147483647 := by
    have h1 : ∀ n : Fin 31, (2 : Int) ^ n.val ≤ 2147483647 := by decide
    exact h1 ⟨y.toNat, by omega⟩
  have hq : (0 : Int) < 2 ^ y.toNat := Int.pow_pos (by decide)
  rw [ev_shl h ⟨hr.1, by omega, by rw [Int.one_mul]; exact ⟨by omega, hp⟩⟩, Int.one_mul]
theorem ev_shl2 (h : zcode k pc = some (20, nx, a, b, ts)) {p : Int} (hr : 0 ≤ y ∧ y < 32) (hp : (2 : Int) ^ y.toNat = p) (hz : z32 (x * p)) : ev k pc l ((0, y) :: (0, x) :: st) T V = ev k nx l ((0, x * p) :: st) T V := by
  rw [ev_shl h ⟨hr.1, hr.2, by rw [hp]; exact hz⟩, hp]
theorem ev_shr2 (h : zcode k pc = some (21, nx, a, b, ts)) {p : Int} (hr : 0 ≤ y ∧ y < 32) (hp : (2 : Int) ^ y.toNat = p) : ev k pc l ((0, y) :: (0, x) :: st) T V = ev k nx l ((0, x / p) :: st) T V := by
  rw [ev_shr h hr, hp]
theorem ev_ushr2 (h : zcode k pc = some (22, nx, a, b, ts)) {p : Int} (hr : 0 < y ∧ y < 32) (hp : (2 : Int) ^ y.toNat = p) : ev k pc l ((0, y) :: (0, x) :: st) T V = ev k nx l ((0, x % 4294967296 / p) :: st) T V := by
  rw [ev_ushr h ⟨by omega, hr.2⟩, if_neg (by omega), hp]
theorem ev_lshl2 (h : zcode k pc = some (29, nx, a, b, ts)) {p : Int} (hr : 0 ≤ y ∧ y < 64) (hp : (2 : Int) ^ y.toNat = p) (hz : z64 (x * p)) : ev k pc l ((0, y) :: (1, x) :: st) T V = ev k nx l ((1, x * p) :: st) T V := by
  rw [ev_lshl h ⟨hr.1, hr.2, by rw [hp]; exact hz⟩, hp]
variable {nx2 a2 : Nat} {b2 : Int} {ts2 : List Nat}
theorem ev_leq (h : zcode k pc = some (31, nx, a, b, ts)) (h2 : zcode k nx = some (40, nx2, a2, b2, ts2)) : ev k pc l ((1, y) :: (1, x) :: st) T V = if x = y then ev k a2 l st T V else ev k nx2 l st T V := by
  rw [ev_lcmp h, ev_eq h2]
  rcases Int.lt_trichotomy x y with h | h | h
  · rw [if_neg (show ¬ y < x by omega), if_neg (show ¬ x = y by omega), if_neg (by decide), if_neg (by omega)]
  · rw [if_neg (show ¬ y < x by omega), if_pos h, if_pos rfl, if_pos h]
  · rw [if_pos h, if_neg (by decide), if_neg (by omega)]
theorem ev_lne (h : zcode k pc = some (31, nx, a, b, ts)) (h2 : zcode k nx = some (41, nx2, a2, b2, ts2)) : ev k pc l ((1, y) :: (1, x) :: st) T V = if x = y then ev k nx2 l st T V else ev k a2 l st T V := by
  rw [ev_lcmp h, ev_ne h2]
  rcases Int.lt_trichotomy x y with h | h | h
  · rw [if_neg (show ¬ y < x by omega), if_neg (show ¬ x = y by omega), if_neg (by decide), if_neg (by omega)]
  · rw [if_neg (show ¬ y < x by omega), if_pos h, if_pos rfl, if_pos h]
  · rw [if_pos h, if_neg (by decide), if_neg (by omega)]
theorem ev_llt (h : zcode k pc = some (31, nx, a, b, ts)) (h2 : zcode k nx = some (42, nx2, a2, b2, ts2)) : ev k pc l ((1, y) :: (1, x) :: st) T V = if x < y then ev k a2 l st T V else ev k nx2 l st T V := by
  rw [ev_lcmp h, ev_lt h2]
  rcases Int.lt_trichotomy x y with h | h | h
  · rw [if_neg (show ¬ y < x by omega), if_neg (show ¬ x = y by omega), if_pos (by decide), if_pos (by omega)]
  · rw [if_neg (show ¬ y < x by omega), if_pos h, if_neg (by decide), if_neg (by omega)]
  · rw [if_pos h, if_neg (by decide), if_neg (by omega)]
theorem ev_lge (h : zcode k pc = some (31, nx, a, b, ts)) (h2 : zcode k nx = some (43, nx2, a2, b2, ts2)) : ev k pc l ((1, y) :: (1, x) :: st) T V = if y ≤ x then ev k a2 l st T V else ev k nx2 l st T V := by
  rw [ev_lcmp h, ev_ge h2]
  rcases Int.lt_trichotomy x y with h | h | h
  · rw [if_neg (show ¬ y < x by omega), if_neg (show ¬ x = y by omega), if_neg (by decide), if_neg (by omega)]
  · rw [if_neg (show ¬ y < x by omega), if_pos h, if_pos (by decide), if_pos (by omega)]
  · rw [if_pos h, if_pos (by decide), if_pos (by omega)]
theorem ev_lgt (h : zcode k pc = some (31, nx, a, b, ts)) (h2 : zcode k nx = some (44, nx2, a2, b2, ts2)) : ev k pc l ((1, y) :: (1, x) :: st) T V = if y < x then ev k a2 l st T V else ev k nx2 l st T V := by
  rw [ev_lcmp h, ev_gt h2]
  rcases Int.lt_trichotomy x y with h | h | h
  · rw [if_neg (show ¬ y < x by omega), if_neg (show ¬ x = y by omega), if_neg (by decide), if_neg (by omega)]
  · rw [if_neg (show ¬ y < x by omega), if_pos h, if_neg (by decide), if_neg (by omega)]
  · rw [if_pos h, if_pos (by decide), if_pos (by omega)]
theorem ev_lle (h : zcode k pc = some (31, nx, a, b, ts)) (h2 : zcode k nx = some (45, nx2, a2, b2, ts2)) : ev k pc l ((1, y) :: (1, x) :: st) T V = if x ≤ y then ev k a2 l st T V else ev k nx2 l st T V := by
  rw [ev_lcmp h, ev_le h2]
  rcases Int.lt_trichotomy x y with h | h | h
  · rw [if_neg (show ¬ y < x by omega), if_neg (show ¬ x = y by omega), if_pos (by decide), if_pos (by omega)]
  · rw [if_neg (show ¬ y < x by omega), if_pos h, if_pos (by decide), if_pos (by omega)]
  · rw [if_pos h, if_neg (by decide), if_neg (by omega)]
end ZEV
