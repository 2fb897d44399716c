/-! Math, Object.<init>, arraycopy, statics, strings -/
theorem z_mcodes : Jvm.Cond.code Lib.Math.max.name Lib.Math.max.code 2 (some .int) ∈ zWS ∧ Jvm.Cond.code Lib.Math.min.name Lib.Math.min.code 2 (some .int) ∈ zWS ∧ Jvm.Cond.code Lib.MathLoose.min_long.x Lib.MathLoose.min_long.code 4 (some .long) ∈ zWS ∧ Jvm.Cond.code Lib.objectInit ⟨#[0xb1]⟩ 1 none ∈ zWS := by
  have key : ∀ w, k2_isCode w = true → w ∈ z_ms.map (fun q => Jvm.Cond.code q.1 q.2.1 q.2.2.1 q.2.2.2) → w ∈ zWS := by
    intro w h1 h2
    rw [← z_codes] at h2
    refine List.mem_filter.mpr ⟨(List.mem_filter.mp h2).1, ?_⟩
    cases w <;> simp [k2_isCode] at h1
    rfl
  refine ⟨key _ rfl ?_, key _ rfl ?_, key _ rfl ?_, key _ rfl ?_⟩
  · exact List.mem_map.mpr ⟨_, List.mem_of_getElem? (i := 13) rfl, rfl⟩
  · exact List.mem_map.mpr ⟨_, List.mem_of_getElem? (i := 34) rfl, rfl⟩
  · exact List.mem_map.mpr ⟨_, List.mem_of_getElem? (i := 95) rfl, rfl⟩
  · exact List.mem_map.mpr ⟨_, List.mem_of_getElem? (i := 1) rfl, rfl⟩
