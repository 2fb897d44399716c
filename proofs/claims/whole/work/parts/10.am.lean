/-! AM: an abstract machine over mathematical integers and a flat memory. -/
/-- a value: tag (0 int, 1 long, 2 reference into the new cells (-1: null), 3 string constant, 4 the script, 5 bytes of a string constant, 6 a reference that nobody looks at, 9 none) and number -/
abbrev zV : Type := Nat × Int
/-- what stands of a heap: how many cells, how many slots, classes, lengths, references -/
abbrev zT : Type := Nat × Nat × (Int → Int) × (Int → Int) × (Int → Int → Int)
/-- its numbers: cell and place -/
abbrev zM : Type := Int → Int → Int
abbrev zH : Type := zT × zM
/-- an instruction: number, next, two operands, targets -/
abbrev zI : Type := Nat × Nat × Nat × Int × List Nat
def zsz (T : zT) : Int := (T.1 : Int)
def zsl (T : zT) : Nat := T.2.1
def zc (T : zT) (a : Int) : Int := T.2.2.1 a
def zl (T : zT) (a : Int) : Int := T.2.2.2.1 a
def zp (T : zT) (a : Int) : Int → Int := T.2.2.2.2 a
def zu (f : Int → Int) (i v : Int) : Int → Int := fun j => if j = i then v else f j
/-- row a is f now -/
def zs (V : zM) (a : Int) (f : Int → Int) : zM := fun b => if b = a then f else V b
/-- row a of the references is f now -/
def zq (T : zT) (a : Int) (f : Int → Int) : zT := (T.1, T.2.1, T.2.2.1, T.2.2.2.1, zs T.2.2.2.2 a f)
/-- a new cell: null and 0 in it -/
def zn (T : zT) (c n : Int) : zT := (T.1 + 1, T.2.1 + n.toNat, zu T.2.2.1 (T.1 : Int) c, zu T.2.2.2.1 (T.1 : Int) n, zs T.2.2.2.2 (T.1 : Int) (fun _ => -1))
abbrev z32 (x : Int) : Prop := -2147483648 ≤ x ∧ x ≤ 2147483647
abbrev z64 (x : Int) : Prop := -9223372036854775808 ≤ x ∧ x ≤ 9223372036854775807
def zand (x y : Int) : Int := (Int32.ofInt x &&& Int32.ofInt y).toInt
def zor (x y : Int) : Int := (Int32.ofInt x ||| Int32.ofInt y).toInt
def zxor (x y : Int) : Int := (Int32.ofInt x ^^^ Int32.ofInt y).toInt
def zlnd (x y : Int) : Int := (Int64.ofInt x &&& Int64.ofInt y).toInt
def zlor (x y : Int) : Int := (Int64.ofInt x ||| Int64.ofInt y).toInt
def zcat (st : List zV) : Nat := (st.map fun v => if v.1 = 1 then 2 else 1).sum
/-- what a step comes to: the next place; a call (method, arguments, place, locals and stack behind it); the end -/
abbrev zR : Type := (Nat × List zV × List zV × zH) ⊕ ((Nat × List zV × Nat × List zV × List zV × zH) ⊕ (zV × zH))
def zgo (nx : Nat) (l st : List zV) (T : zT) (V : zM) : Option zR := some (.inl (nx, l, st, T, V))
/-- how long the text of string constant i is, and its bytes -/
def z_strs : List (List Int) := [[101, 97, 115, 116], [119, 101, 115, 116], [119, 111, 114, 100], [109, 105, 114, 114, 111, 114], [99, 111, 115, 116], [100, 114, 111, 112], [110, 111, 116]]
def z_str (i : Int) : List Int := z_strs.getD i.toNat []
def zo_ld (t nx a : Nat) (l st : List zV) (T : zT) (V : zM) : Option zR := match l[a]? with
  | some v => if v.1 = t then zgo nx l (v :: st) T V else none
  | none => none
def zo_lda (nx a : Nat) (l st : List zV) (T : zT) (V : zM) : Option zR := match l[a]? with
  | some v => if 2 ≤ v.1 ∧ v.1 ≤ 6 then zgo nx l (v :: st) T V else none
  | none => none
def zo_st1 (p : Nat → Bool) (nx a : Nat) (l st : List zV) (T : zT) (V : zM) : Option zR := match st with
  | v :: st => if p v.1 = true ∧ a < l.length ∧ (a = 0 ∨ (l.getD (a - 1) (9, 0)).1 ≠ 1) then zgo nx (l.set a v) st T V else none
  | [] => none
def zo_st2 (nx a : Nat) (l st : List zV) (T : zT) (V : zM) : Option zR := match st with
  | v :: st => if v.1 = 1 ∧ a + 1 < l.length ∧ (a = 0 ∨ (l.getD (a - 1) (9, 0)).1 ≠ 1) then zgo nx ((l.set a v).set (a + 1) (9, 0)) st T V else none
  | [] => none
def zo_inc (nx a : Nat) (b : Int) (l st : List zV) (T : zT) (V : zM) : Option zR := match l[a]? with
  | some v => if v.1 = 0 ∧ z32 (v.2 + b) ∧ (a = 0 ∨ (l.getD (a - 1) (9, 0)).1 ≠ 1) then zgo nx (l.set a (0, v.2 + b)) st T V else none
  | none => none
/-- two numbers of tag t: a number of tag t, where g says so -/
def zo_bin (t : Nat) (g : Int → Int → Prop) (dg : ∀ x y, Decidable (g x y)) (f : Int → Int → Int) (nx : Nat) (l st : List zV) (T : zT) (V : zM) : Option zR := match st with
  | y :: x :: st => if y.1 = t ∧ x.1 = t then (if g x.2 y.2 then zgo nx l ((t, f x.2 y.2) :: st) T V else none) else none
  | _ => none
def zo_lsh (g : Int → Int → Prop) (dg : ∀ x y, Decidable (g x y)) (f : Int → Int → Int) (nx : Nat) (l st : List zV) (T : zT) (V : zM) : Option zR := match st with
  | y :: x :: st => if y.1 = 0 ∧ x.1 = 1 then (if g x.2 y.2 then zgo nx l ((1, f x.2 y.2) :: st) T V else none) else none
  | _ => none
def zo_cmp (nx : Nat) (l st : List zV) (T : zT) (V : zM) : Option zR := match st with
  | y :: x :: st => if y.1 = 1 ∧ x.1 = 1 then zgo nx l ((0, if y.2 < x.2 then 1 else if x.2 = y.2 then 0 else -1) :: st) T V else none
  | _ => none
def zo_un (t u : Nat) (g : Int → Prop) (dg : ∀ x, Decidable (g x)) (f : Int → Int) (nx : Nat) (l st : List zV) (T : zT) (V : zM) : Option zR := match st with
  | x :: st => if x.1 = t then (if g x.2 then zgo nx l ((u, f x.2) :: st) T V else none) else none
  | _ => none
def zo_if1 (g : Int → Prop) (dg : ∀ x, Decidable (g x)) (nx a : Nat) (l st : List zV) (T : zT) (V : zM) : Option zR := match st with
  | x :: st => if x.1 = 0 then (if g x.2 then zgo a l st T V else zgo nx l st T V) else none
  | _ => none
def zo_if2 (g : Int → Int → Prop) (dg : ∀ x y, Decidable (g x y)) (nx a : Nat) (l st : List zV) (T : zT) (V : zM) : Option zR := match st with
  | y :: x :: st => if y.1 = 0 ∧ x.1 = 0 then (if g x.2 y.2 then zgo a l st T V else zgo nx l st T V) else none
  | _ => none
def zo_nn (nx a : Nat) (l st : List zV) (T : zT) (V : zM) : Option zR := match st with
  | x :: st => if x.1 = 2 then (if 0 ≤ x.2 then zgo a l st T V else zgo nx l st T V) else none
  | _ => none
def zo_sw (b : Int) (ts : List Nat) (l st : List zV) (T : zT) (V : zM) : Option zR := match st with
  | x :: st => if x.1 = 0 then (if b ≤ x.2 ∧ x.2 < b + (ts.length : Int) - 1 then zgo (ts.getD ((x.2 - b).toNat + 1) 0) l st T V else zgo (ts.getD 0 0) l st T V) else none
  | _ => none
def zo_dup (nx : Nat) (l st : List zV) (T : zT) (V : zM) : Option zR := match st with
  | x :: st => if x.1 = 0 ∨ x.1 = 2 then zgo nx l (x :: x :: st) T V else none
  | _ => none
def zo_pop (nx : Nat) (l st : List zV) (T : zT) (V : zM) : Option zR := match st with
  | x :: st => if x.1 = 0 ∨ x.1 = 2 then zgo nx l st T V else none
  | _ => none
def zo_dup2 (nx : Nat) (l st : List zV) (T : zT) (V : zM) : Option zR := match st with
  | y :: x :: st => if (y.1 = 0 ∨ y.1 = 2) ∧ (x.1 = 0 ∨ x.1 = 2) then zgo nx l (y :: x :: y :: x :: st) T V else none
  | _ => none
def zo_get (t : Nat) (M : Int → Int → Int) (nx a : Nat) (b : Int) (l st : List zV) (T : zT) (V : zM) : Option zR := match st with
  | x :: st => if x.1 = 2 ∧ (0 ≤ x.2 ∧ x.2 < zsz T ∧ zc T x.2 = (a : Int) + 10) then zgo nx l ((t, M x.2 b) :: st) T V else none
  | _ => none
def zo_put (g : Int → Prop) (dg : ∀ x, Decidable (g x)) (nx a : Nat) (b : Int) (l st : List zV) (T : zT) (V : zM) : Option zR := match st with
  | y :: x :: st => if (y.1 = 0 ∧ x.1 = 2) ∧ (0 ≤ x.2 ∧ x.2 < zsz T ∧ zc T x.2 = (a : Int) + 10) then (if g y.2 then zgo nx l st T (zs V x.2 (zu (V x.2) b y.2)) else none) else none
  | _ => none
def zo_putr (nx a : Nat) (b : Int) (l st : List zV) (T : zT) (V : zM) : Option zR := match st with
  | y :: x :: st => if (y.1 = 2 ∧ x.1 = 2) ∧ (0 ≤ x.2 ∧ x.2 < zsz T ∧ zc T x.2 = (a : Int) + 10) then zgo nx l st (zq T x.2 (zu (zp T x.2) b y.2)) V else none
  | _ => none
def zo_ald (t : Nat) (M : Int → Int → Int) (c : Int) (nx : Nat) (l st : List zV) (T : zT) (V : zM) : Option zR := match st with
  | i :: x :: st => if (i.1 = 0 ∧ x.1 = 2) ∧ (0 ≤ x.2 ∧ x.2 < zsz T ∧ zc T x.2 = c) ∧ (0 ≤ i.2 ∧ i.2 < zl T x.2) then zgo nx l ((t, M x.2 i.2) :: st) T V else none
  | _ => none
/-- ints: out of an int array, or out of the script (whose length and ints stand in cell -2) -/
def zo_ild (nx : Nat) (l st : List zV) (T : zT) (V : zM) : Option zR := match st with
  | i :: x :: st => if x.1 = 4 then (if i.1 = 0 ∧ (0 ≤ i.2 ∧ i.2 < zl T (-2)) then zgo nx l ((0, V (-2) i.2) :: st) T V else none) else zo_ald 0 V 0 nx l (i :: x :: st) T V
  | _ => none
def zo_bld (nx : Nat) (l st : List zV) (T : zT) (V : zM) : Option zR := match st with
  | i :: x :: st => if x.1 = 5 then (if i.1 = 0 ∧ (0 ≤ x.2 ∧ x.2 < 7) ∧ (0 ≤ i.2 ∧ i.2 < ((z_str x.2).length : Int)) then zgo nx l ((0, (z_str x.2).getD i.2.toNat 0) :: st) T V else none)
    else if x.1 = 2 ∧ zc T x.2 = 3 then zo_ald 0 V 3 nx l (i :: x :: st) T V else zo_ald 0 V 2 nx l (i :: x :: st) T V
  | _ => none
def zo_ast (t : Nat) (c : Int) (g : Int → Prop) (dg : ∀ x, Decidable (g x)) (nx : Nat) (l st : List zV) (T : zT) (V : zM) : Option zR := match st with
  | y :: i :: x :: st => if (y.1 = t ∧ i.1 = 0 ∧ x.1 = 2) ∧ (0 ≤ x.2 ∧ x.2 < zsz T ∧ zc T x.2 = c) ∧ (0 ≤ i.2 ∧ i.2 < zl T x.2) then (if g y.2 then zgo nx l st T (zs V x.2 (zu (V x.2) i.2 y.2)) else none) else none
  | _ => none
def zo_bst (nx : Nat) (l st : List zV) (T : zT) (V : zM) : Option zR := match st with
  | y :: i :: x :: st => if zc T x.2 = 3 then zo_ast 0 3 (fun v => 0 ≤ v ∧ v ≤ 1) (fun _ => inferInstance) nx l (y :: i :: x :: st) T V
    else zo_ast 0 2 (fun v => -128 ≤ v ∧ v ≤ 127) (fun _ => inferInstance) nx l (y :: i :: x :: st) T V
  | _ => none
def zo_qst (nx : Nat) (l st : List zV) (T : zT) (V : zM) : Option zR := match st with
  | y :: i :: x :: st => if (y.1 = 2 ∧ i.1 = 0 ∧ x.1 = 2) ∧ (0 ≤ y.2 ∧ y.2 < zsz T ∧ zc T y.2 = 16) ∧ (0 ≤ x.2 ∧ x.2 < zsz T ∧ zc T x.2 = 4) ∧ (0 ≤ i.2 ∧ i.2 < zl T x.2) then zgo nx l st (zq T x.2 (zu (zp T x.2) i.2 y.2)) V else none
  | _ => none
def zo_len (nx : Nat) (l st : List zV) (T : zT) (V : zM) : Option zR := match st with
  | x :: st => if x.1 = 4 then zgo nx l ((0, zl T (-2)) :: st) T V
    else if x.1 = 5 then (if 0 ≤ x.2 ∧ x.2 < 7 then zgo nx l ((0, ((z_str x.2).length : Int)) :: st) T V else none)
    else if x.1 = 2 ∧ (0 ≤ x.2 ∧ x.2 < zsz T) ∧ (0 ≤ zc T x.2 ∧ zc T x.2 ≤ 4) then zgo nx l ((0, zl T x.2) :: st) T V else none
  | _ => none
/-- how many fields a class has -/
def zfN (c : Nat) : Nat := [5, 8, 4, 6, 5, 9, 8, 6, 2, 10, 6, 18, 38].getD c 0
def zo_new (nx a : Nat) (l st : List zV) (T : zT) (V : zM) : Option zR := if a < 13 then zgo nx l ((2, zsz T) :: st) (zn T ((a : Int) + 10) (zfN a : Int)) (zs V (zsz T) (fun _ => 0)) else none
def zo_nar (c : Int) (nx : Nat) (l st : List zV) (T : zT) (V : zM) : Option zR := match st with
  | x :: st => if x.1 = 0 ∧ 0 ≤ x.2 ∧ x.2 ≤ 1000000 then zgo nx l ((2, zsz T) :: st) (zn T c x.2) (zs V (zsz T) (fun _ => 0)) else none
  | _ => none
def zo_ret (a : Nat) (st : List zV) (T : zT) (V : zM) : Option zR := match st with
  | [x] => if (a = 0 ∧ x.1 = 0) ∨ (a = 1 ∧ x.1 = 1) ∨ (a = 2 ∧ x.1 = 2) ∨ (a = 3 ∧ x.1 = 0 ∧ 0 ≤ x.2 ∧ x.2 ≤ 1) ∨ (a = 4 ∧ x.1 = 0 ∧ -128 ≤ x.2 ∧ x.2 ≤ 127) ∨ (a = 5 ∧ x.1 = 0 ∧ 0 ≤ x.2 ∧ x.2 ≤ 65535) then some (.inr (.inr (x, T, V))) else none
  | _ => none
def zo_call (nx a : Nat) (b : Int) (l st : List zV) (T : zT) (V : zM) : Option zR :=
  if b.toNat ≤ st.length ∧ zcat (st.drop b.toNat) ≤ 8 then some (.inr (.inl (a, (st.take b.toNat).reverse, nx, l, st.drop b.toNat, T, V))) else none
/-- the receiver is a cell of the new ones -/
def zo_callI (nx a : Nat) (b : Int) (l st : List zV) (T : zT) (V : zM) : Option zR := match (st.take b.toNat).reverse with
  | x :: _ => if x.1 = 2 ∧ 0 ≤ x.2 then zo_call nx a b l st T V else none
  | [] => none
def zo_callV (nx a : Nat) (b : Int) (ts : List Nat) (l st : List zV) (T : zT) (V : zM) : Option zR := match (st.take b.toNat).reverse with
  | x :: _ => if x.1 = 2 ∧ (0 ≤ x.2 ∧ x.2 < zsz T ∧ zc T x.2 = ((ts.getD 0 0 : Nat) : Int) + 10) then zo_call nx a b l st T V else none
  | [] => none
def zo_callS (nx a : Nat) (b : Int) (l st : List zV) (T : zT) (V : zM) : Option zR := match (st.take b.toNat).reverse with
  | x :: _ => if x.1 = 3 ∧ 0 ≤ x.2 ∧ x.2 < 7 then zo_call nx a b l st T V else none
  | [] => none
def zo_obj (nx : Nat) (l st : List zV) (T : zT) (V : zM) : Option zR := match st with
  | x :: st => if x.1 = 2 ∧ 0 ≤ x.2 ∧ zcat st ≤ 8 then zgo nx l st T V else none
  | _ => none
def zcpy (f g : Int → Int) (sp dp n : Int) : Int → Int := fun k => if dp ≤ k ∧ k < dp + n then f (sp + (k - dp)) else g k
def zo_cpy (nx : Nat) (l st : List zV) (T : zT) (V : zM) : Option zR := match st with
  | n :: dp :: d :: sp :: s :: st =>
    if (n.1 = 0 ∧ dp.1 = 0 ∧ d.1 = 2 ∧ sp.1 = 0 ∧ s.1 = 2) ∧ (0 ≤ s.2 ∧ s.2 < zsz T ∧ 0 ≤ d.2 ∧ d.2 < zsz T) ∧ (zc T s.2 = zc T d.2 ∧ (zc T s.2 = 0 ∨ zc T s.2 = 1)) ∧ s.2 ≠ d.2 ∧ (0 ≤ n.2 ∧ 0 ≤ sp.2 ∧ 0 ≤ dp.2 ∧ sp.2 + n.2 ≤ zl T s.2 ∧ dp.2 + n.2 ≤ zl T d.2) ∧ zcat st ≤ 8
    then zgo nx l st T (zs V d.2 (zcpy (V s.2) (V d.2) sp.2 dp.2 n.2)) else none
  | _ => none
def zo_strv (nx : Nat) (l st : List zV) (T : zT) (V : zM) : Option zR := match st with
  | x :: st => if x.1 = 3 ∧ 0 ≤ x.2 ∧ x.2 < 7 then zgo nx l ((5, x.2) :: st) T V else none
  | _ => none
def zo_strc (nx : Nat) (l st : List zV) (T : zT) (V : zM) : Option zR := match st with
  | x :: st => if x.1 = 3 ∧ 0 ≤ x.2 ∧ x.2 < 7 then zgo nx l ((0, 0) :: st) T V else none
  | _ => none
def zo_mm (t : Nat) (f : Int → Int → Int) (nx : Nat) (l st : List zV) (T : zT) (V : zM) : Option zR := match st with
  | y :: x :: st => if y.1 = t ∧ x.1 = t ∧ zcat st ≤ 8 then zgo nx l ((t, f x.2 y.2) :: st) T V else none
  | _ => none
def z_step (I : zI) (l st : List zV) (T : zT) (V : zM) : Option zR :=
  let nx := I.2.1
  let a := I.2.2.1
  let b := I.2.2.2.1
  match I.1 with
  | 0 => if z32 b then zgo nx l ((0, b) :: st) T V else none
  | 1 => if z64 b then zgo nx l ((1, b) :: st) T V else none
  | 2 => zgo nx l ((2, -1) :: st) T V
  | 3 => if a < 7 then zgo nx l ((3, (a : Int)) :: st) T V else none
  | 4 => zo_ld 0 nx a l st T V
  | 5 => zo_ld 1 nx a l st T V
  | 6 => zo_lda nx a l st T V
  | 7 => zo_st1 (fun t => t == 0) nx a l st T V
  | 8 => zo_st2 nx a l st T V
  | 9 => zo_st1 (fun t => t == 2) nx a l st T V
  | 10 => zo_inc nx a b l st T V
  | 11 => zo_bin 0 (fun x y => z32 (x + y)) (fun _ _ => inferInstance) (fun x y => x + y) nx l st T V
  | 12 => zo_bin 0 (fun x y => z32 (x - y)) (fun _ _ => inferInstance) (fun x y => x - y) nx l st T V
  | 13 => zo_bin 0 (fun x y => z32 (x * y)) (fun _ _ => inferInstance) (fun x y => x * y) nx l st T V
  | 14 => zo_bin 0 (fun _ _ => True) (fun _ _ => inferInstance) zand nx l st T V
  | 15 => zo_bin 0 (fun _ _ => True) (fun _ _ => inferInstance) zor nx l st T V
  | 16 => zo_bin 0 (fun _ _ => True) (fun _ _ => inferInstance) zxor nx l st T V
  | 17 => zo_bin 0 (fun x y => 0 ≤ x ∧ 0 < y) (fun _ _ => inferInstance) (fun x y => x / y) nx l st T V
  | 18 => zo_bin 0 (fun x y => 0 ≤ x ∧ 0 < y) (fun _ _ => inferInstance) (fun x y => x % y) nx l st T V
  | 19 => zo_un 0 0 (fun x => z32 (-x)) (fun _ => inferInstance) (fun x => -x) nx l st T V
  | 20 => zo_bin 0 (fun x y => 0 ≤ y ∧ y < 32 ∧ z32 (x * 2 ^ y.toNat)) (fun _ _ => inferInstance) (fun x y => x * 2 ^ y.toNat) nx l st T V
  | 21 => zo_bin 0 (fun _ y => 0 ≤ y ∧ y < 32) (fun _ _ => inferInstance) (fun x y => x / 2 ^ y.toNat) nx l st T V
  | 22 => zo_bin 0 (fun _ y => 0 ≤ y ∧ y < 32) (fun _ _ => inferInstance) (fun x y => if y = 0 then x else (x % 4294967296) / 2 ^ y.toNat) nx l st T V
  | 23 => zo_bin 1 (fun x y => z64 (x + y)) (fun _ _ => inferInstance) (fun x y => x + y) nx l st T V
  | 24 => zo_bin 1 (fun x y => z64 (x - y)) (fun _ _ => inferInstance) (fun x y => x - y) nx l st T V
  | 25 => zo_bin 1 (fun x y => z64 (x * y)) (fun _ _ => inferInstance) (fun x y => x * y) nx l st T V
  | 26 => zo_bin 1 (fun _ _ => True) (fun _ _ => inferInstance) zlnd nx l st T V
  | 27 => zo_bin 1 (fun _ _ => True) (fun _ _ => inferInstance) zlor nx l st T V
  | 28 => zo_bin 1 (fun x y => 0 ≤ x ∧ 0 < y) (fun _ _ => inferInstance) (fun x y => x % y) nx l st T V
  | 29 => zo_lsh (fun x y => 0 ≤ y ∧ y < 64 ∧ z64 (x * 2 ^ y.toNat)) (fun _ _ => inferInstance) (fun x y => x * 2 ^ y.toNat) nx l st T V
  | 30 => zo_lsh (fun _ y => 0 ≤ y ∧ y < 64) (fun _ _ => inferInstance) (fun x y => x / 2 ^ y.toNat) nx l st T V
  | 31 => zo_cmp nx l st T V
  | 32 => zo_un 0 1 (fun _ => True) (fun _ => inferInstance) (fun x => x) nx l st T V
  | 33 => zo_un 1 0 (fun x => z32 x) (fun _ => inferInstance) (fun x => x) nx l st T V
  | 34 => zo_un 0 0 (fun _ => True) (fun _ => inferInstance) (fun x => (x + 128) % 256 - 128) nx l st T V
  | 35 => zo_un 0 0 (fun x => 0 ≤ x ∧ x ≤ 65535) (fun _ => inferInstance) (fun x => x) nx l st T V
  | 36 => zo_dup nx l st T V
  | 37 => zo_pop nx l st T V
  | 38 => zo_dup2 nx l st T V
  | 40 => zo_if1 (fun x => x = 0) (fun _ => inferInstance) nx a l st T V
  | 41 => zo_if1 (fun x => ¬ x = 0) (fun _ => inferInstance) nx a l st T V
  | 42 => zo_if1 (fun x => x < 0) (fun _ => inferInstance) nx a l st T V
  | 43 => zo_if1 (fun x => 0 ≤ x) (fun _ => inferInstance) nx a l st T V
  | 44 => zo_if1 (fun x => 0 < x) (fun _ => inferInstance) nx a l st T V
  | 45 => zo_if1 (fun x => x ≤ 0) (fun _ => inferInstance) nx a l st T V
  | 46 => zo_if2 (fun x y => x = y) (fun _ _ => inferInstance) nx a l st T V
  | 47 => zo_if2 (fun x y => ¬ x = y) (fun _ _ => inferInstance) nx a l st T V
  | 48 => zo_if2 (fun x y => x < y) (fun _ _ => inferInstance) nx a l st T V
  | 49 => zo_if2 (fun x y => y ≤ x) (fun _ _ => inferInstance) nx a l st T V
  | 50 => zo_if2 (fun x y => y < x) (fun _ _ => inferInstance) nx a l st T V
  | 51 => zo_if2 (fun x y => x ≤ y) (fun _ _ => inferInstance) nx a l st T V
  | 52 => zo_nn nx a l st T V
  | 53 => zgo a l st T V
  | 54 => zo_sw b I.2.2.2.2 l st T V
  | 55 => zo_get 0 V nx a b l st T V
  | 56 => zo_get 2 (zp T) nx a b l st T V
  | 57 => zo_put (fun _ => True) (fun _ => inferInstance) nx a b l st T V
  | 58 => zo_put (fun v => 0 ≤ v ∧ v ≤ 1) (fun _ => inferInstance) nx a b l st T V
  | 59 => zo_putr nx a b l st T V
  | 60 => zo_ild nx l st T V
  | 61 => zo_ald 1 V 1 nx l st T V
  | 62 => zo_bld nx l st T V
  | 63 => zo_ald 2 (zp T) 4 nx l st T V
  | 64 => zo_ast 0 0 (fun _ => True) (fun _ => inferInstance) nx l st T V
  | 65 => zo_ast 1 1 (fun _ => True) (fun _ => inferInstance) nx l st T V
  | 66 => zo_bst nx l st T V
  | 67 => zo_qst nx l st T V
  | 68 => zo_len nx l st T V
  | 69 => zo_new nx a l st T V
  | 70 => zo_nar (a : Int) nx l st T V
  | 71 => zo_nar 4 nx l st T V
  | 72 => zo_ret a st T V
  | 73 => match st with
    | [] => some (.inr (.inr ((9, 0), T, V)))
    | _ => none
  | 74 => zo_call nx a b l st T V
  | 75 => zo_callI nx a b l st T V
  | 76 => zo_callV nx a b I.2.2.2.2 l st T V
  | 77 => zo_callS nx a b l st T V
  | 78 => zo_obj nx l st T V
  | 79 => zo_cpy nx l st T V
  | 80 => zgo nx l ((0, 1) :: st) T V
  | 81 => zgo nx l ((6, 0) :: st) T V
  | 82 => zo_strv nx l st T V
  | 83 => zo_strc nx l st T V
  | 84 => zo_mm 0 (fun x y => max x y) nx l st T V
  | 85 => zo_mm 0 (fun x y => min x y) nx l st T V
  | 86 => zo_mm 1 (fun x y => min x y) nx l st T V
  | _ => none
def z_at : List (Nat × zI) → Nat → Option zI
  | [], _ => none
  | q :: r, pc => if q.1 = pc then some q.2 else z_at r pc
def z_sp : List zV → List zV
  | [] => []
  | v :: r => if v.1 = 1 then v :: (9, 0) :: z_sp r else v :: z_sp r
/-- the locals of a method of n locals at its start -/
def z_ent (n : Nat) (args : List zV) : List zV := z_sp args ++ List.replicate (n - (z_sp args).length) (9, 0)
def z_push (r : zV) (st : List zV) : List zV := if r.1 = 9 then st else r :: st
