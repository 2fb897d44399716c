/-! all of them -/
def z_V (k : Nat) : Prop := (z_cds.getD k []).all (z_vl k) = true
theorem zV_0 : ∀ k, 0 ≤ k → k < 25 → z_V k := by
  intro k h1 h2
  match k, h1, h2 with
  | 0, _, _ => exact zvl0
  | 1, _, _ => exact zvl1
  | 2, _, _ => exact zvl2
  | 3, _, _ => exact zvl3
  | 4, _, _ => exact zvl4
  | 5, _, _ => exact zvl5
  | 6, _, _ => exact zvl6
  | 7, _, _ => exact zvl7
  | 8, _, _ => exact zvl8
  | 9, _, _ => exact zvl9
  | 10, _, _ => exact zvl10
  | 11, _, _ => exact zvl11
  | 12, _, _ => exact zvl12
  | 13, _, _ => exact zvl13
  | 14, _, _ => exact zvl14
  | 15, _, _ => exact zvl15
  | 16, _, _ => exact zvl16
  | 17, _, _ => exact zvl17
  | 18, _, _ => exact zvl18
  | 19, _, _ => exact zvl19
  | 20, _, _ => exact zvl20
  | 21, _, _ => exact zvl21
  | 22, _, _ => exact zvl22
  | 23, _, _ => exact zvl23
  | 24, _, _ => exact zvl24
  | k + 25, _, h2 => exact absurd h2 (by omega)
theorem zV_25 : ∀ k, k < 25 → z_V (k + 25) := by
  intro k h2
  match k, h2 with
  | 0, _ => exact zvl25
  | 1, _ => exact zvl26
  | 2, _ => exact zvl27
  | 3, _ => exact zvl28
  | 4, _ => exact zvl29
  | 5, _ => exact zvl30
  | 6, _ => exact zvl31
  | 7, _ => exact zvl32
  | 8, _ => exact zvl33
  | 9, _ => exact zvl34
  | 10, _ => exact zvl35
  | 11, _ => exact zvl36
  | 12, _ => exact zvl37
  | 13, _ => exact zvl38
  | 14, _ => exact zvl39
  | 15, _ => exact zvl40
  | 16, _ => exact zvl41
  | 17, _ => exact zvl42
  | 18, _ => exact zvl43
  | 19, _ => exact zvl44
  | 20, _ => exact zvl45
  | 21, _ => exact zvl46
  | 22, _ => exact zvl47
  | 23, _ => exact zvl48
  | 24, _ => exact zvl49
  | k + 25, h2 => exact absurd h2 (by omega)
theorem zV_50 : ∀ k, k < 25 → z_V (k + 50) := by
  intro k h2
  match k, h2 with
  | 0, _ => exact zvl50
  | 1, _ => exact zvl51
  | 2, _ => exact zvl52
  | 3, _ => exact zvl53
  | 4, _ => exact zvl54
  | 5, _ => exact zvl55
  | 6, _ => exact zvl56
  | 7, _ => exact zvl57
  | 8, _ => exact zvl58
  | 9, _ => exact zvl59
  | 10, _ => exact zvl60
  | 11, _ => exact zvl61
  | 12, _ => exact zvl62
  | 13, _ => exact zvl63
  | 14, _ => exact zvl64
  | 15, _ => exact zvl65
  | 16, _ => exact zvl66
  | 17, _ => exact zvl67
  | 18, _ => exact zvl68
  | 19, _ => exact zvl69
  | 20, _ => exact zvl70
  | 21, _ => exact zvl71
  | 22, _ => exact zvl72
  | 23, _ => exact zvl73
  | 24, _ => exact zvl74
  | k + 25, h2 => exact absurd h2 (by omega)
theorem zV_75 : ∀ k, k < 25 → z_V (k + 75) := by
  intro k h2
  match k, h2 with
  | 0, _ => exact zvl75
  | 1, _ => exact zvl76
  | 2, _ => exact zvl77
  | 3, _ => exact zvl78
  | 4, _ => exact zvl79
  | 5, _ => exact zvl80
  | 6, _ => exact zvl81
  | 7, _ => exact zvl82
  | 8, _ => exact zvl83
  | 9, _ => exact zvl84
  | 10, _ => exact zvl85
  | 11, _ => exact zvl86
  | 12, _ => exact zvl87
  | 13, _ => exact zvl88
  | 14, _ => exact zvl89
  | 15, _ => exact zvl90
  | 16, _ => exact zvl91
  | 17, _ => exact zvl92
  | 18, _ => exact zvl93
  | 19, _ => exact zvl94
  | 20, _ => exact zvl95
  | 21, _ => exact zvl96
  | 22, _ => exact zvl97
  | 23, _ => exact zvl98
  | 24, _ => exact zvl99
  | k + 25, h2 => exact absurd h2 (by omega)
theorem zV_100 : ∀ k, k < 25 → z_V (k + 100) := by
  intro k h2
  match k, h2 with
  | 0, _ => exact zvl100
  | 1, _ => exact zvl101
  | 2, _ => exact zvl102
  | 3, _ => exact zvl103
  | 4, _ => exact zvl104
  | 5, _ => exact zvl105
  | 6, _ => exact zvl106
  | 7, _ => exact zvl107
  | 8, _ => exact zvl108
  | 9, _ => exact zvl109
  | 10, _ => exact zvl110
  | 11, _ => exact zvl111
  | 12, _ => exact zvl112
  | 13, _ => exact zvl113
  | 14, _ => exact zvl114
  | 15, _ => exact zvl115
  | 16, _ => exact zvl116
  | 17, _ => exact zvl117
  | 18, _ => exact zvl118
  | 19, _ => exact zvl119
  | 20, _ => exact zvl120
  | 21, _ => exact zvl121
  | 22, _ => exact zvl122
  | 23, _ => exact zvl123
  | 24, _ => exact zvl124
  | k + 25, h2 => exact absurd h2 (by omega)
theorem zV_125 : ∀ k, k < 25 → z_V (k + 125) := by
  intro k h2
  match k, h2 with
  | 0, _ => exact zvl125
  | 1, _ => exact zvl126
  | 2, _ => exact zvl127
  | 3, _ => exact zvl128
  | 4, _ => exact zvl129
  | 5, _ => exact zvl130
  | 6, _ => exact zvl131
  | 7, _ => exact zvl132
  | 8, _ => exact zvl133
  | 9, _ => exact zvl134
  | 10, _ => exact zvl135
  | 11, _ => exact zvl136
  | 12, _ => exact zvl137
  | 13, _ => exact zvl138
  | 14, _ => exact zvl139
  | 15, _ => exact zvl140
  | 16, _ => exact zvl141
  | 17, _ => exact zvl142
  | 18, _ => exact zvl143
  | 19, _ => exact zvl144
  | 20, _ => exact zvl145
  | 21, _ => exact zvl146
  | 22, _ => exact zvl147
  | 23, _ => exact zvl148
  | 24, _ => exact zvl149
  | k + 25, h2 => exact absurd h2 (by omega)
theorem zV_150 : ∀ k, k < 25 → z_V (k + 150) := by
  intro k h2
  match k, h2 with
  | 0, _ => exact zvl150
  | 1, _ => exact zvl151
  | 2, _ => exact zvl152
  | 3, _ => exact zvl153
  | 4, _ => exact zvl154
  | 5, _ => exact zvl155
  | 6, _ => exact zvl156
  | 7, _ => exact zvl157
  | 8, _ => exact zvl158
  | 9, _ => exact zvl159
  | 10, _ => exact zvl160
  | 11, _ => exact zvl161
  | 12, _ => exact zvl162
  | 13, _ => exact zvl163
  | 14, _ => exact zvl164
  | 15, _ => exact zvl165
  | 16, _ => exact zvl166
  | 17, _ => exact zvl167
  | 18, _ => exact zvl168
  | 19, _ => exact zvl169
  | 20, _ => exact zvl170
  | 21, _ => exact zvl171
  | 22, _ => exact zvl172
  | 23, _ => exact zvl173
  | 24, _ => exact zvl174
  | k + 25, h2 => exact absurd h2 (by omega)
theorem zV_175 : ∀ k, k < 25 → z_V (k + 175) := by
  intro k h2
  match k, h2 with
  | 0, _ => exact zvl175
  | 1, _ => exact zvl176
  | 2, _ => exact zvl177
  | 3, _ => exact zvl178
  | 4, _ => exact zvl179
  | 5, _ => exact zvl180
  | 6, _ => exact zvl181
  | 7, _ => exact zvl182
  | 8, _ => exact zvl183
  | 9, _ => exact zvl184
  | 10, _ => exact zvl185
  | 11, _ => exact zvl186
  | 12, _ => exact zvl187
  | 13, _ => exact zvl188
  | 14, _ => exact zvl189
  | 15, _ => exact zvl190
  | 16, _ => exact zvl191
  | 17, _ => exact zvl192
  | 18, _ => exact zvl193
  | 19, _ => exact zvl194
  | 20, _ => exact zvl195
  | 21, _ => exact zvl196
  | 22, _ => exact zvl197
  | 23, _ => exact zvl198
  | 24, _ => exact zvl199
  | k + 25, h2 => exact absurd h2 (by omega)
theorem zV_200 : ∀ k, k < 25 → z_V (k + 200) := by
  intro k h2
  match k, h2 with
  | 0, _ => exact zvl200
  | 1, _ => exact zvl201
  | 2, _ => exact zvl202
  | 3, _ => exact zvl203
  | 4, _ => exact zvl204
  | 5, _ => exact zvl205
  | 6, _ => exact zvl206
  | 7, _ => exact zvl207
  | 8, _ => exact zvl208
  | 9, _ => exact zvl209
  | 10, _ => exact zvl210
  | 11, _ => exact zvl211
  | 12, _ => exact zvl212
  | 13, _ => exact zvl213
  | 14, _ => exact zvl214
  | 15, _ => exact zvl215
  | 16, _ => exact zvl216
  | 17, _ => exact zvl217
  | 18, _ => exact zvl218
  | 19, _ => exact zvl219
  | 20, _ => exact zvl220
  | 21, _ => exact zvl221
  | 22, _ => exact zvl222
  | 23, _ => exact zvl223
  | 24, _ => exact zvl224
  | k + 25, h2 => exact absurd h2 (by omega)
theorem zV_225 : ∀ k, k < 20 → z_V (k + 225) := by
  intro k h2
  match k, h2 with
  | 0, _ => exact zvl225
  | 1, _ => exact zvl226
  | 2, _ => exact zvl227
  | 3, _ => exact zvl228
  | 4, _ => exact zvl229
  | 5, _ => exact zvl230
  | 6, _ => exact zvl231
  | 7, _ => exact zvl232
  | 8, _ => exact zvl233
  | 9, _ => exact zvl234
  | 10, _ => exact zvl235
  | 11, _ => exact zvl236
  | 12, _ => exact zvl237
  | 13, _ => exact zvl238
  | 14, _ => exact zvl239
  | 15, _ => exact zvl240
  | 16, _ => exact zvl241
  | 17, _ => exact zvl242
  | 18, _ => exact zvl243
  | 19, _ => exact zvl244
  | k + 20, h2 => exact absurd h2 (by omega)
theorem z_len : z_cds.length = 245 := by decide +kernel
theorem zV_all (k : Nat) : z_V k := by
  by_cases h : 245 ≤ k
  · show (z_cds.getD k []).all (z_vl k) = true
    rw [List.getD_eq_getElem?_getD, List.getElem?_eq_none (by rw [z_len]; exact h)]; rfl
  by_cases h225 : 225 ≤ k
  · obtain ⟨j, rfl⟩ := Nat.exists_eq_add_of_le h225
    rw [Nat.add_comm]
    exact zV_225 j (by omega)
  by_cases h200 : 200 ≤ k
  · obtain ⟨j, rfl⟩ := Nat.exists_eq_add_of_le h200
    rw [Nat.add_comm]
    exact zV_200 j (by omega)
  by_cases h175 : 175 ≤ k
  · obtain ⟨j, rfl⟩ := Nat.exists_eq_add_of_le h175
    rw [Nat.add_comm]
    exact zV_175 j (by omega)
  by_cases h150 : 150 ≤ k
  · obtain ⟨j, rfl⟩ := Nat.exists_eq_add_of_le h150
    rw [Nat.add_comm]
    exact zV_150 j (by omega)
  by_cases h125 : 125 ≤ k
  · obtain ⟨j, rfl⟩ := Nat.exists_eq_add_of_le h125
    rw [Nat.add_comm]
    exact zV_125 j (by omega)
  by_cases h100 : 100 ≤ k
  · obtain ⟨j, rfl⟩ := Nat.exists_eq_add_of_le h100
    rw [Nat.add_comm]
    exact zV_100 j (by omega)
  by_cases h75 : 75 ≤ k
  · obtain ⟨j, rfl⟩ := Nat.exists_eq_add_of_le h75
    rw [Nat.add_comm]
    exact zV_75 j (by omega)
  by_cases h50 : 50 ≤ k
  · obtain ⟨j, rfl⟩ := Nat.exists_eq_add_of_le h50
    rw [Nat.add_comm]
    exact zV_50 j (by omega)
  by_cases h25 : 25 ≤ k
  · obtain ⟨j, rfl⟩ := Nat.exists_eq_add_of_le h25
    rw [Nat.add_comm]
    exact zV_25 j (by omega)
  exact zV_0 k (Nat.zero_le k) (by omega)
