/-! the law's code -/
theorem zvl0_0 : ((zcd0.drop 0).take 120).all (z_vl 0) = true := by decide +kernel
theorem zvl0_120 : ((zcd0.drop 120).take 120).all (z_vl 0) = true := by decide +kernel
theorem zvl0_240 : ((zcd0.drop 240).take 120).all (z_vl 0) = true := by decide +kernel
theorem zvl0_360 : ((zcd0.drop 360).take 120).all (z_vl 0) = true := by decide +kernel
theorem zvl0_480 : ((zcd0.drop 480).take 120).all (z_vl 0) = true := by decide +kernel
theorem zvl0_600 : ((zcd0.drop 600).take 120).all (z_vl 0) = true := by decide +kernel
theorem zvl0_720 : ((zcd0.drop 720).take 120).all (z_vl 0) = true := by decide +kernel
theorem zvl0_840 : ((zcd0.drop 840).take 120).all (z_vl 0) = true := by decide +kernel
theorem zcut {α : Type} (p : α → Bool) (n : Nat) (L : List α) (h1 : (L.take n).all p = true) (h2 : (L.drop n).all p = true) : L.all p = true := by
  rw [← List.take_append_drop n L, List.all_append, h1, h2]; rfl
theorem zvq840 : (zcd0.drop 840).all (z_vl 0) = true := by
  have h := zvl0_840
  rwa [List.take_of_length_le (by decide +kernel)] at h
theorem zvq720 : (zcd0.drop 720).all (z_vl 0) = true := zcut _ 120 _ zvl0_720 (by rw [List.drop_drop]; exact zvq840)
theorem zvq600 : (zcd0.drop 600).all (z_vl 0) = true := zcut _ 120 _ zvl0_600 (by rw [List.drop_drop]; exact zvq720)
theorem zvq480 : (zcd0.drop 480).all (z_vl 0) = true := zcut _ 120 _ zvl0_480 (by rw [List.drop_drop]; exact zvq600)
theorem zvq360 : (zcd0.drop 360).all (z_vl 0) = true := zcut _ 120 _ zvl0_360 (by rw [List.drop_drop]; exact zvq480)
theorem zvq240 : (zcd0.drop 240).all (z_vl 0) = true := zcut _ 120 _ zvl0_240 (by rw [List.drop_drop]; exact zvq360)
theorem zvq120 : (zcd0.drop 120).all (z_vl 0) = true := zcut _ 120 _ zvl0_120 (by rw [List.drop_drop]; exact zvq240)
theorem zvq0 : (zcd0.drop 0).all (z_vl 0) = true := zcut _ 120 _ zvl0_0 (by rw [List.drop_drop]; exact zvq120)
theorem zvl0 : zcd0.all (z_vl 0) = true := zvq0
