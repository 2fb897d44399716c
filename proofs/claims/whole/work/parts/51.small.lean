/-! small methods: what they answer -/
section SMALL
variable {T : zT} {V : zM}
theorem c28 {b c : Int} (h : zState T b) : zcall 28 [(2, b), (0, c)] T V = some ((0, if 0 ≤ c ∧ c < V b 0 then 1 else 0), T, V) := by
  simp (disch := first | decide | exact zbr _ _ | omega) only [e28, b28_0, (b28_4 h), b28_12, b28_16, b28_17, Option.bind_some, zpush0, zpush1, zpush2, zpush9, zb0, ite_not]
  repeat' split
  all_goals first | rfl | (exfalso; omega)
theorem c29 {x : Int} : zcall 29 [(0, x)] T V = some ((0, if 0 ≤ x ∧ x < 128 then 1 else 0), T, V) := by
  simp (disch := first | decide | exact zbr _ _ | omega) only [e29, b29_0, b29_4, b29_11, b29_15, b29_16, Option.bind_some, zpush0, zpush1, zpush2, zpush9, zb0, ite_not]
  repeat' split
  all_goals first | rfl | (exfalso; omega)
theorem c72 {x : Int} : zcall 72 [(0, x)] T V = some ((0, if x = 0 ∨ x = 1 then 1 else 0), T, V) := by
  simp (disch := first | decide | exact zbr _ _ | omega) only [e72, b72_0, b72_4, b72_9, b72_13, b72_14, Option.bind_some, zpush0, zpush1, zpush2, zpush9, zb0, ite_not]
  repeat' split
  all_goals first | rfl | (exfalso; omega)
theorem c73 {x : Int} : zcall 73 [(0, x)] T V = some ((0, if 0 ≤ x ∧ x < 26 then 1 else 0), T, V) := by
  simp (disch := first | decide | exact zbr _ _ | omega) only [e73, b73_0, b73_4, b73_10, b73_14, b73_15, Option.bind_some, zpush0, zpush1, zpush2, zpush9, zb0, ite_not]
  repeat' split
  all_goals first | rfl | (exfalso; omega)
theorem c86 {x : Int} : zcall 86 [(0, x)] T V = some ((0, if -1 ≤ x ∧ x < 26 then 1 else 0), T, V) := by
  simp (disch := first | decide | exact zbr _ _ | omega) only [e86, b86_0, b86_5, b86_9, b86_12, b86_16, b86_17, Option.bind_some, zpush0, zpush1, zpush2, zpush9, zb0, ite_not, c73]
  repeat' split
  all_goals first | rfl | (exfalso; omega)
theorem c87 {x : Int} : zcall 87 [(0, x)] T V = some ((0, if x = -1 then 26 else x), T, V) := by
  simp (disch := first | decide | exact zbr _ _ | omega) only [e87, b87_0, b87_5, b87_10, b87_11, Option.bind_some, zpush0, zpush1, zpush2, zpush9, zb0, ite_not]
  repeat' split
  all_goals first | rfl | (exfalso; omega)
theorem c79 {x : Int} : zcall 79 [(0, x)] T V = some ((0, if x = 26 then -1 else x), T, V) := by
  simp (disch := first | decide | exact zbr _ _ | omega) only [e79, b79_0, b79_6, b79_10, b79_11, Option.bind_some, zpush0, zpush1, zpush2, zpush9, zb0, ite_not]
  repeat' split
  all_goals first | rfl | (exfalso; omega)
theorem c74 {b x : Int} (h : zState T b) : zcall 74 [(2, b), (0, x)] T V = some ((2, if x = 0 then b + 5 else b + 13), T, V) := by
  simp (disch := first | decide | exact zbr _ _ | omega) only [e74, b74_0, (b74_4 h), (b74_11 h), b74_15, Option.bind_some, zpush0, zpush1, zpush2, zpush9, zb0, ite_not]
  repeat' split
  all_goals first | rfl | (exfalso; omega)
theorem c19 {b x : Int} (h : zTongue T b) (hx : 0 ≤ x ∧ x < 26) : zcall 19 [(2, b), (0, x)] T V = some ((0, if V (b + 1) x ≠ 0 then 1 else 0), T, V) := by
  simp (disch := first | decide | exact zbr _ _ | omega) only [e19, (b19_0 h), b19_9, b19_13, b19_14, Option.bind_some, zpush0, zpush1, zpush2, zpush9, zb0, ite_not]
  repeat' split
  all_goals first | rfl | (exfalso; omega)
theorem c22 {x y : Int} (hx : 0 ≤ x ∧ x ≤ 26) (hy : 0 ≤ y ∧ y ≤ 26) : zcall 22 [(0, x), (0, y)] T V = some ((0, x * 27 + y), T, V) := by
  simp (disch := first | decide | exact zbr _ _ | omega) only [e22, b22_0, Option.bind_some, zpush0, zpush1, zpush2, zpush9, zb0, ite_not]

theorem c76 {b w i : Int} (h : zTongue T b) (hw : 0 ≤ w ∧ w < 8) (hi : 0 ≤ i ∧ i < 6) : zcall 76 [(2, b), (0, w), (0, i)] T V = some ((0, V (b + 5) (w * 6 + i)), T, V) := by
  simp (disch := first | decide | exact zbr _ _ | omega) only [e76, (b76_0 h), Option.bind_some, zpush0, zpush1, zpush2, zpush9, zb0, ite_not]

theorem c78 {t x : Int} (hS : zStr T) (hx : 0 ≤ x ∧ x < 128) : zcall 78 [(2, 59), (0, t), (0, x)] T V = some ((0, if t = 0 then V 60 x else V 61 x), T, V) := by
  simp (disch := first | decide | exact zbr _ _ | omega) only [e78, b78_0, (b78_4 hS), (b78_13 hS), b78_19, Option.bind_some, zpush0, zpush1, zpush2, zpush9, zb0, ite_not]
  repeat' split
  all_goals first | rfl | (exfalso; omega)
theorem c150 {x a b : Int} : zcall 150 [(0, x), (0, a), (0, b)] T V = some ((0, if a ≤ x ∧ x ≤ b then 1 else 0), T, V) := by
  simp (disch := first | decide | exact zbr _ _ | omega) only [e150, b150_0, b150_5, b150_10, b150_14, b150_15, Option.bind_some, zpush0, zpush1, zpush2, zpush9, zb0, ite_not]
  repeat' split
  all_goals first | rfl | (exfalso; omega)
theorem c157 {x : Int} (hS : zStr T) (hn : 0 ≤ V 132 427 ∧ V 132 427 ≤ 16) : zcall 157 [(2, 130), (0, x)] T V = some ((0, if 0 ≤ x ∧ x < V 132 427 then 1 else 0), T, V) := by
  simp (disch := first | decide | exact zbr _ _ | omega) only [e157, (b157_0 hS), b157_15, Option.bind_some, zpush0, zpush1, zpush2, zpush9, zb0, ite_not, c150]
  repeat' split
  all_goals first | rfl | (exfalso; omega)
theorem c183 {x : Int} : zcall 183 [(0, x)] T V = some ((0, if x = 0 ∨ x = 1 then 1 else 0), T, V) := by
  simp (disch := first | decide | exact zbr _ _ | omega) only [e183, b183_0, b183_6, Option.bind_some, zpush0, zpush1, zpush2, zpush9, zb0, ite_not, c150]
  repeat' split
  all_goals first | rfl | (exfalso; omega)
theorem c184 {x : Int} : zcall 184 [(0, x)] T V = some ((0, if 0 ≤ x ∧ x < 26 then 1 else 0), T, V) := by
  simp (disch := first | decide | exact zbr _ _ | omega) only [e184, b184_0, b184_7, Option.bind_some, zpush0, zpush1, zpush2, zpush9, zb0, ite_not, c150]
  repeat' split
  all_goals first | rfl | (exfalso; omega)
theorem c196 {x : Int} : zcall 196 [(0, x)] T V = some ((0, if -1 ≤ x ∧ x < 26 then 1 else 0), T, V) := by
  simp (disch := first | decide | exact zbr _ _ | omega) only [e196, b196_0, b196_7, Option.bind_some, zpush0, zpush1, zpush2, zpush9, zb0, ite_not, c150]
  repeat' split
  all_goals first | rfl | (exfalso; omega)
theorem c198 {x : Int} : zcall 198 [(0, x)] T V = some ((0, if x = -1 then 26 else x), T, V) := by
  simp (disch := first | decide | exact zbr _ _ | omega) only [e198, b198_0, b198_5, b198_10, b198_11, Option.bind_some, zpush0, zpush1, zpush2, zpush9, zb0, ite_not]
  repeat' split
  all_goals first | rfl | (exfalso; omega)
theorem c190 {x : Int} : zcall 190 [(0, x)] T V = some ((0, if x = 26 then -1 else x), T, V) := by
  simp (disch := first | decide | exact zbr _ _ | omega) only [e190, b190_0, b190_6, b190_10, b190_11, Option.bind_some, zpush0, zpush1, zpush2, zpush9, zb0, ite_not]
  repeat' split
  all_goals first | rfl | (exfalso; omega)
theorem c166 {x : Int} : zcall 166 [(0, x)] T V = some ((0, if 97 ≤ x ∧ x ≤ 122 then 1 else 0), T, V) := by
  simp (disch := first | decide | exact zbr _ _ | omega) only [e166, b166_0, b166_6, b166_12, b166_16, b166_17, Option.bind_some, zpush0, zpush1, zpush2, zpush9, zb0, ite_not]
  repeat' split
  all_goals first | rfl | (exfalso; omega)
theorem c167 {x : Int} : zcall 167 [(0, x)] T V = some ((0, if 48 ≤ x ∧ x ≤ 57 then 1 else 0), T, V) := by
  simp (disch := first | decide | exact zbr _ _ | omega) only [e167, b167_0, b167_6, b167_12, b167_16, b167_17, Option.bind_some, zpush0, zpush1, zpush2, zpush9, zb0, ite_not]
  repeat' split
  all_goals first | rfl | (exfalso; omega)
theorem c192 {t i : Int} (hS : zStr T) (hn : 0 ≤ V 132 427 ∧ V 132 427 ≤ 16) (hi : 0 ≤ i ∧ i ≤ 16) : zcall 192 [(2, 130), (0, t), (0, i)] T V = some ((0, if t = 0 then i else V 132 427 - 1 - i), T, V) := by
  simp (disch := first | decide | exact zbr _ _ | omega) only [e192, b192_0, b192_4, (b192_8 hS), b192_20, Option.bind_some, zpush0, zpush1, zpush2, zpush9, zb0, ite_not]
  repeat' split
  all_goals first | rfl | (exfalso; omega)
theorem c185 {t l f : Int} (hS : zStr T) (ht : 0 ≤ t ∧ t ≤ 1) (hl : 0 ≤ l ∧ l < 26) (hf : 0 ≤ f ∧ f ≤ 2) : zcall 185 [(2, 130), (0, t), (0, l), (0, f)] T V = some ((0, V 132 (3 * (26 * t + l) + f)), T, V) := by
  simp (disch := first | decide | exact zbr _ _ | omega) only [e185, (b185_0 hS), Option.bind_some, zpush0, zpush1, zpush2, zpush9, zb0, ite_not]
  first | done | (congr 4; omega)
theorem c187 {t w f : Int} (hS : zStr T) (ht : 0 ≤ t ∧ t ≤ 1) (hw : 0 ≤ w ∧ w < 8) (hf : 0 ≤ f ∧ f ≤ 7) : zcall 187 [(2, 130), (0, t), (0, w), (0, f)] T V = some ((0, V 132 (156 + 8 * (8 * t + w) + f)), T, V) := by
  simp (disch := first | decide | exact zbr _ _ | omega) only [e187, (b187_0 hS), Option.bind_some, zpush0, zpush1, zpush2, zpush9, zb0, ite_not]
  first | done | (congr 4; omega)
end SMALL
