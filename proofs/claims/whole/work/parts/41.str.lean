/-! printed by emit_str.py: the standing structure of the heap behind both constructors -/
def z_cl0 : List (Int × Int) := [(21, 18), (16, 8), (0, 16), (0, 16), (0, 7), (0, 7), (19, 10), (0, 26), (0, 26), (0, 8), (0, 8), (0, 48), (0, 16), (0, 4), (19, 10), (0, 26), (0, 26), (0, 8), (0, 8), (0, 48), (0, 16), (0, 4), (20, 6), (0, 10), (0, 10), (0, 10), (0, 10), (0, 10), (16, 8), (0, 16), (0, 16), (0, 7), (0, 7), (19, 10), (0, 26), (0, 26), (0, 8), (0, 8), (0, 48), (0, 16), (0, 4), (19, 10), (0, 26), (0, 26), (0, 8), (0, 8), (0, 48), (0, 16), (0, 4), (20, 6), (0, 10), (0, 10), (0, 10), (0, 10), (0, 10), (4, 2), (18, 2), (0, 400), (17, 6), (14, 5), (0, 128), (0, 128), (0, 128), (0, 128), (0, 128), (13, 6), (0, 729), (0, 729), (0, 729), (0, 729), (0, 128), (13, 6), (0, 729), (0, 729), (0, 729), (0, 729), (0, 128), (12, 4), (10, 5), (15, 9), (0, 196), (0, 196), (0, 196), (0, 196), (3, 196), (0, 9), (0, 9), (15, 9), (0, 196), (0, 196), (0, 196), (0, 196), (3, 196), (0, 9), (0, 9), (11, 8), (0, 16), (0, 16), (1, 16), (0, 16), (1, 16), (1, 16), (0, 16), (11, 8), (0, 16), (0, 16), (1, 16), (0, 16), (1, 16), (1, 16), (0, 16), (0, 0), (11, 8), (0, 17), (0, 17), (1, 17), (0, 17), (1, 17), (1, 17), (0, 17), (11, 8), (0, 1), (0, 1), (1, 1), (0, 1), (1, 1), (1, 1), (0, 1), (0, 1024), (0, 4), (22, 38), (0, 7), (0, 428), (0, 856), (3, 2), (0, 300), (2, 36), (2, 400), (0, 5), (0, 401), (0, 401), (0, 401), (0, 128), (0, 128), (3, 729), (0, 12096), (3, 448), (0, 2), (1, 50176), (1, 50176), (0, 729), (0, 852992), (0, 729)]
def z_pt0 : List (Int × Int × Int) := [(0, 0, 1), (0, 1, 28), (0, 2, 55), (0, 3, 56), (0, 4, 58), (0, 5, 59), (0, 6, 65), (0, 7, 71), (0, 8, 77), (0, 9, 78), (0, 10, 112), (0, 11, 120), (0, 12, 128), (0, 13, 129), (1, 1, 2), (1, 2, 3), (1, 3, 4), (1, 4, 5), (1, 5, 6), (1, 6, 14), (1, 7, 22), (6, 0, 7), (6, 1, 8), (6, 2, 9), (6, 3, 10), (6, 4, 11), (6, 6, 12), (6, 8, 13), (14, 0, 15), (14, 1, 16), (14, 2, 17), (14, 3, 18), (14, 4, 19), (14, 6, 20), (14, 8, 21), (22, 0, 23), (22, 1, 24), (22, 2, 25), (22, 3, 26), (22, 4, 27), (28, 1, 29), (28, 2, 30), (28, 3, 31), (28, 4, 32), (28, 5, 33), (28, 6, 41), (28, 7, 49), (33, 0, 34), (33, 1, 35), (33, 2, 36), (33, 3, 37), (33, 4, 38), (33, 6, 39), (33, 8, 40), (41, 0, 42), (41, 1, 43), (41, 2, 44), (41, 3, 45), (41, 4, 46), (41, 6, 47), (41, 8, 48), (49, 0, 50), (49, 1, 51), (49, 2, 52), (49, 3, 53), (49, 4, 54), (56, 0, 57), (58, 0, 56), (58, 1, 28), (59, 0, 60), (59, 1, 61), (59, 2, 62), (59, 3, 63), (59, 4, 64), (65, 0, 66), (65, 1, 67), (65, 2, 68), (65, 3, 69), (65, 4, 70), (71, 0, 72), (71, 1, 73), (71, 2, 74), (71, 3, 75), (71, 4, 76), (78, 0, 79), (78, 1, 87), (79, 0, 80), (79, 1, 81), (79, 2, 82), (79, 3, 83), (79, 4, 84), (79, 6, 85), (79, 7, 86), (87, 0, 88), (87, 1, 89), (87, 2, 90), (87, 3, 91), (87, 4, 92), (87, 6, 93), (87, 7, 94), (112, 1, 113), (112, 2, 114), (112, 3, 115), (112, 4, 116), (112, 5, 117), (112, 6, 118), (112, 7, 119), (120, 1, 121), (120, 2, 122), (120, 3, 123), (120, 4, 124), (120, 5, 125), (120, 6, 126), (120, 7, 127), (130, 3, 131), (130, 4, 132), (130, 5, 133), (130, 6, 134), (130, 7, 135), (130, 9, 136), (130, 10, 137), (130, 11, 138), (130, 14, 139), (130, 15, 140), (130, 16, 141), (130, 22, 142), (130, 23, 143), (130, 24, 144), (130, 28, 145), (130, 29, 146), (130, 30, 147), (130, 32, 148), (130, 33, 149), (130, 34, 150), (130, 35, 151), (130, 36, 152)]
def zStr (T : zT) : Prop := (153 : Int) ≤ zsz T ∧ (∀ i : Nat, i < 153 → zc T (i : Int) = (z_cl0.getD i (0, 0)).1 ∧ zl T (i : Int) = (z_cl0.getD i (0, 0)).2) ∧ ∀ (i : Nat) (q : Int × Int × Int), z_pt0[i]? = some q → zp T q.1 q.2.1 = q.2.2
theorem zso {T : zT} (h : zStr T) (i : Nat) (hi : i < 153) {c : Int} (hc : (z_cl0.getD i (0, 0)).1 = c + 10) : zO T (i : Int) c := ⟨by omega, by have := h.1; omega, by rw [(h.2.1 i hi).1, hc]⟩
theorem zsa {T : zT} (h : zStr T) (i : Nat) (hi : i < 153) {c n : Int} (hc : z_cl0.getD i (0, 0) = (c, n)) : zAr T (i : Int) c n := ⟨⟨by omega, by have := h.1; omega, by rw [(h.2.1 i hi).1, hc]⟩, by rw [(h.2.1 i hi).2, hc]⟩
theorem zspt {T : zT} (h : zStr T) (i : Nat) {a k v : Int} (hq : z_pt0[i]? = some (a, k, v)) : zp T a k = v := h.2.2 i _ hq
theorem so0 {T : zT} (h : zStr T) : zO T 0 11 := zso h 0 (by decide) rfl
theorem so1 {T : zT} (h : zStr T) : zO T 1 6 := zso h 1 (by decide) rfl
theorem sa2 {T : zT} (h : zStr T) : zAr T 2 0 16 := zsa h 2 (by decide) rfl
theorem sa3 {T : zT} (h : zStr T) : zAr T 3 0 16 := zsa h 3 (by decide) rfl
theorem sa4 {T : zT} (h : zStr T) : zAr T 4 0 7 := zsa h 4 (by decide) rfl
theorem sa5 {T : zT} (h : zStr T) : zAr T 5 0 7 := zsa h 5 (by decide) rfl
theorem so6 {T : zT} (h : zStr T) : zO T 6 9 := zso h 6 (by decide) rfl
theorem sa7 {T : zT} (h : zStr T) : zAr T 7 0 26 := zsa h 7 (by decide) rfl
theorem sa8 {T : zT} (h : zStr T) : zAr T 8 0 26 := zsa h 8 (by decide) rfl
theorem sa9 {T : zT} (h : zStr T) : zAr T 9 0 8 := zsa h 9 (by decide) rfl
theorem sa10 {T : zT} (h : zStr T) : zAr T 10 0 8 := zsa h 10 (by decide) rfl
theorem sa11 {T : zT} (h : zStr T) : zAr T 11 0 48 := zsa h 11 (by decide) rfl
theorem sa12 {T : zT} (h : zStr T) : zAr T 12 0 16 := zsa h 12 (by decide) rfl
theorem sa13 {T : zT} (h : zStr T) : zAr T 13 0 4 := zsa h 13 (by decide) rfl
theorem so14 {T : zT} (h : zStr T) : zO T 14 9 := zso h 14 (by decide) rfl
theorem sa15 {T : zT} (h : zStr T) : zAr T 15 0 26 := zsa h 15 (by decide) rfl
theorem sa16 {T : zT} (h : zStr T) : zAr T 16 0 26 := zsa h 16 (by decide) rfl
theorem sa17 {T : zT} (h : zStr T) : zAr T 17 0 8 := zsa h 17 (by decide) rfl
theorem sa18 {T : zT} (h : zStr T) : zAr T 18 0 8 := zsa h 18 (by decide) rfl
theorem sa19 {T : zT} (h : zStr T) : zAr T 19 0 48 := zsa h 19 (by decide) rfl
theorem sa20 {T : zT} (h : zStr T) : zAr T 20 0 16 := zsa h 20 (by decide) rfl
theorem sa21 {T : zT} (h : zStr T) : zAr T 21 0 4 := zsa h 21 (by decide) rfl
theorem so22 {T : zT} (h : zStr T) : zO T 22 10 := zso h 22 (by decide) rfl
theorem sa23 {T : zT} (h : zStr T) : zAr T 23 0 10 := zsa h 23 (by decide) rfl
theorem sa24 {T : zT} (h : zStr T) : zAr T 24 0 10 := zsa h 24 (by decide) rfl
theorem sa25 {T : zT} (h : zStr T) : zAr T 25 0 10 := zsa h 25 (by decide) rfl
theorem sa26 {T : zT} (h : zStr T) : zAr T 26 0 10 := zsa h 26 (by decide) rfl
theorem sa27 {T : zT} (h : zStr T) : zAr T 27 0 10 := zsa h 27 (by decide) rfl
theorem so28 {T : zT} (h : zStr T) : zO T 28 6 := zso h 28 (by decide) rfl
theorem sa29 {T : zT} (h : zStr T) : zAr T 29 0 16 := zsa h 29 (by decide) rfl
theorem sa30 {T : zT} (h : zStr T) : zAr T 30 0 16 := zsa h 30 (by decide) rfl
theorem sa31 {T : zT} (h : zStr T) : zAr T 31 0 7 := zsa h 31 (by decide) rfl
theorem sa32 {T : zT} (h : zStr T) : zAr T 32 0 7 := zsa h 32 (by decide) rfl
theorem so33 {T : zT} (h : zStr T) : zO T 33 9 := zso h 33 (by decide) rfl
theorem sa34 {T : zT} (h : zStr T) : zAr T 34 0 26 := zsa h 34 (by decide) rfl
theorem sa35 {T : zT} (h : zStr T) : zAr T 35 0 26 := zsa h 35 (by decide) rfl
theorem sa36 {T : zT} (h : zStr T) : zAr T 36 0 8 := zsa h 36 (by decide) rfl
theorem sa37 {T : zT} (h : zStr T) : zAr T 37 0 8 := zsa h 37 (by decide) rfl
theorem sa38 {T : zT} (h : zStr T) : zAr T 38 0 48 := zsa h 38 (by decide) rfl
theorem sa39 {T : zT} (h : zStr T) : zAr T 39 0 16 := zsa h 39 (by decide) rfl
theorem sa40 {T : zT} (h : zStr T) : zAr T 40 0 4 := zsa h 40 (by decide) rfl
theorem so41 {T : zT} (h : zStr T) : zO T 41 9 := zso h 41 (by decide) rfl
theorem sa42 {T : zT} (h : zStr T) : zAr T 42 0 26 := zsa h 42 (by decide) rfl
theorem sa43 {T : zT} (h : zStr T) : zAr T 43 0 26 := zsa h 43 (by decide) rfl
theorem sa44 {T : zT} (h : zStr T) : zAr T 44 0 8 := zsa h 44 (by decide) rfl
theorem sa45 {T : zT} (h : zStr T) : zAr T 45 0 8 := zsa h 45 (by decide) rfl
theorem sa46 {T : zT} (h : zStr T) : zAr T 46 0 48 := zsa h 46 (by decide) rfl
theorem sa47 {T : zT} (h : zStr T) : zAr T 47 0 16 := zsa h 47 (by decide) rfl
theorem sa48 {T : zT} (h : zStr T) : zAr T 48 0 4 := zsa h 48 (by decide) rfl
theorem so49 {T : zT} (h : zStr T) : zO T 49 10 := zso h 49 (by decide) rfl
theorem sa50 {T : zT} (h : zStr T) : zAr T 50 0 10 := zsa h 50 (by decide) rfl
theorem sa51 {T : zT} (h : zStr T) : zAr T 51 0 10 := zsa h 51 (by decide) rfl
theorem sa52 {T : zT} (h : zStr T) : zAr T 52 0 10 := zsa h 52 (by decide) rfl
theorem sa53 {T : zT} (h : zStr T) : zAr T 53 0 10 := zsa h 53 (by decide) rfl
theorem sa54 {T : zT} (h : zStr T) : zAr T 54 0 10 := zsa h 54 (by decide) rfl
theorem sa55 {T : zT} (h : zStr T) : zAr T 55 4 2 := zsa h 55 (by decide) rfl
theorem so56 {T : zT} (h : zStr T) : zO T 56 8 := zso h 56 (by decide) rfl
theorem sa57 {T : zT} (h : zStr T) : zAr T 57 0 400 := zsa h 57 (by decide) rfl
theorem so58 {T : zT} (h : zStr T) : zO T 58 7 := zso h 58 (by decide) rfl
theorem so59 {T : zT} (h : zStr T) : zO T 59 4 := zso h 59 (by decide) rfl
theorem sa60 {T : zT} (h : zStr T) : zAr T 60 0 128 := zsa h 60 (by decide) rfl
theorem sa61 {T : zT} (h : zStr T) : zAr T 61 0 128 := zsa h 61 (by decide) rfl
theorem sa62 {T : zT} (h : zStr T) : zAr T 62 0 128 := zsa h 62 (by decide) rfl
theorem sa63 {T : zT} (h : zStr T) : zAr T 63 0 128 := zsa h 63 (by decide) rfl
theorem sa64 {T : zT} (h : zStr T) : zAr T 64 0 128 := zsa h 64 (by decide) rfl
theorem so65 {T : zT} (h : zStr T) : zO T 65 3 := zso h 65 (by decide) rfl
theorem sa66 {T : zT} (h : zStr T) : zAr T 66 0 729 := zsa h 66 (by decide) rfl
theorem sa67 {T : zT} (h : zStr T) : zAr T 67 0 729 := zsa h 67 (by decide) rfl
theorem sa68 {T : zT} (h : zStr T) : zAr T 68 0 729 := zsa h 68 (by decide) rfl
theorem sa69 {T : zT} (h : zStr T) : zAr T 69 0 729 := zsa h 69 (by decide) rfl
theorem sa70 {T : zT} (h : zStr T) : zAr T 70 0 128 := zsa h 70 (by decide) rfl
theorem so71 {T : zT} (h : zStr T) : zO T 71 3 := zso h 71 (by decide) rfl
theorem sa72 {T : zT} (h : zStr T) : zAr T 72 0 729 := zsa h 72 (by decide) rfl
theorem sa73 {T : zT} (h : zStr T) : zAr T 73 0 729 := zsa h 73 (by decide) rfl
theorem sa74 {T : zT} (h : zStr T) : zAr T 74 0 729 := zsa h 74 (by decide) rfl
theorem sa75 {T : zT} (h : zStr T) : zAr T 75 0 729 := zsa h 75 (by decide) rfl
theorem sa76 {T : zT} (h : zStr T) : zAr T 76 0 128 := zsa h 76 (by decide) rfl
theorem so77 {T : zT} (h : zStr T) : zO T 77 2 := zso h 77 (by decide) rfl
theorem so78 {T : zT} (h : zStr T) : zO T 78 0 := zso h 78 (by decide) rfl
theorem so79 {T : zT} (h : zStr T) : zO T 79 5 := zso h 79 (by decide) rfl
theorem sa80 {T : zT} (h : zStr T) : zAr T 80 0 196 := zsa h 80 (by decide) rfl
theorem sa81 {T : zT} (h : zStr T) : zAr T 81 0 196 := zsa h 81 (by decide) rfl
theorem sa82 {T : zT} (h : zStr T) : zAr T 82 0 196 := zsa h 82 (by decide) rfl
theorem sa83 {T : zT} (h : zStr T) : zAr T 83 0 196 := zsa h 83 (by decide) rfl
theorem sa84 {T : zT} (h : zStr T) : zAr T 84 3 196 := zsa h 84 (by decide) rfl
theorem sa85 {T : zT} (h : zStr T) : zAr T 85 0 9 := zsa h 85 (by decide) rfl
theorem sa86 {T : zT} (h : zStr T) : zAr T 86 0 9 := zsa h 86 (by decide) rfl
theorem so87 {T : zT} (h : zStr T) : zO T 87 5 := zso h 87 (by decide) rfl
theorem sa88 {T : zT} (h : zStr T) : zAr T 88 0 196 := zsa h 88 (by decide) rfl
theorem sa89 {T : zT} (h : zStr T) : zAr T 89 0 196 := zsa h 89 (by decide) rfl
theorem sa90 {T : zT} (h : zStr T) : zAr T 90 0 196 := zsa h 90 (by decide) rfl
theorem sa91 {T : zT} (h : zStr T) : zAr T 91 0 196 := zsa h 91 (by decide) rfl
theorem sa92 {T : zT} (h : zStr T) : zAr T 92 3 196 := zsa h 92 (by decide) rfl
theorem sa93 {T : zT} (h : zStr T) : zAr T 93 0 9 := zsa h 93 (by decide) rfl
theorem sa94 {T : zT} (h : zStr T) : zAr T 94 0 9 := zsa h 94 (by decide) rfl
theorem so95 {T : zT} (h : zStr T) : zO T 95 1 := zso h 95 (by decide) rfl
theorem sa96 {T : zT} (h : zStr T) : zAr T 96 0 16 := zsa h 96 (by decide) rfl
theorem sa97 {T : zT} (h : zStr T) : zAr T 97 0 16 := zsa h 97 (by decide) rfl
theorem sa98 {T : zT} (h : zStr T) : zAr T 98 1 16 := zsa h 98 (by decide) rfl
theorem sa99 {T : zT} (h : zStr T) : zAr T 99 0 16 := zsa h 99 (by decide) rfl
theorem sa100 {T : zT} (h : zStr T) : zAr T 100 1 16 := zsa h 100 (by decide) rfl
theorem sa101 {T : zT} (h : zStr T) : zAr T 101 1 16 := zsa h 101 (by decide) rfl
theorem sa102 {T : zT} (h : zStr T) : zAr T 102 0 16 := zsa h 102 (by decide) rfl
theorem so103 {T : zT} (h : zStr T) : zO T 103 1 := zso h 103 (by decide) rfl
theorem sa104 {T : zT} (h : zStr T) : zAr T 104 0 16 := zsa h 104 (by decide) rfl
theorem sa105 {T : zT} (h : zStr T) : zAr T 105 0 16 := zsa h 105 (by decide) rfl
theorem sa106 {T : zT} (h : zStr T) : zAr T 106 1 16 := zsa h 106 (by decide) rfl
theorem sa107 {T : zT} (h : zStr T) : zAr T 107 0 16 := zsa h 107 (by decide) rfl
theorem sa108 {T : zT} (h : zStr T) : zAr T 108 1 16 := zsa h 108 (by decide) rfl
theorem sa109 {T : zT} (h : zStr T) : zAr T 109 1 16 := zsa h 109 (by decide) rfl
theorem sa110 {T : zT} (h : zStr T) : zAr T 110 0 16 := zsa h 110 (by decide) rfl
theorem sa111 {T : zT} (h : zStr T) : zAr T 111 0 0 := zsa h 111 (by decide) rfl
theorem so112 {T : zT} (h : zStr T) : zO T 112 1 := zso h 112 (by decide) rfl
theorem sa113 {T : zT} (h : zStr T) : zAr T 113 0 17 := zsa h 113 (by decide) rfl
theorem sa114 {T : zT} (h : zStr T) : zAr T 114 0 17 := zsa h 114 (by decide) rfl
theorem sa115 {T : zT} (h : zStr T) : zAr T 115 1 17 := zsa h 115 (by decide) rfl
theorem sa116 {T : zT} (h : zStr T) : zAr T 116 0 17 := zsa h 116 (by decide) rfl
theorem sa117 {T : zT} (h : zStr T) : zAr T 117 1 17 := zsa h 117 (by decide) rfl
theorem sa118 {T : zT} (h : zStr T) : zAr T 118 1 17 := zsa h 118 (by decide) rfl
theorem sa119 {T : zT} (h : zStr T) : zAr T 119 0 17 := zsa h 119 (by decide) rfl
theorem so120 {T : zT} (h : zStr T) : zO T 120 1 := zso h 120 (by decide) rfl
theorem sa121 {T : zT} (h : zStr T) : zAr T 121 0 1 := zsa h 121 (by decide) rfl
theorem sa122 {T : zT} (h : zStr T) : zAr T 122 0 1 := zsa h 122 (by decide) rfl
theorem sa123 {T : zT} (h : zStr T) : zAr T 123 1 1 := zsa h 123 (by decide) rfl
theorem sa124 {T : zT} (h : zStr T) : zAr T 124 0 1 := zsa h 124 (by decide) rfl
theorem sa125 {T : zT} (h : zStr T) : zAr T 125 1 1 := zsa h 125 (by decide) rfl
theorem sa126 {T : zT} (h : zStr T) : zAr T 126 1 1 := zsa h 126 (by decide) rfl
theorem sa127 {T : zT} (h : zStr T) : zAr T 127 0 1 := zsa h 127 (by decide) rfl
theorem sa128 {T : zT} (h : zStr T) : zAr T 128 0 1024 := zsa h 128 (by decide) rfl
theorem sa129 {T : zT} (h : zStr T) : zAr T 129 0 4 := zsa h 129 (by decide) rfl
theorem so130 {T : zT} (h : zStr T) : zO T 130 12 := zso h 130 (by decide) rfl
theorem sa131 {T : zT} (h : zStr T) : zAr T 131 0 7 := zsa h 131 (by decide) rfl
theorem sa132 {T : zT} (h : zStr T) : zAr T 132 0 428 := zsa h 132 (by decide) rfl
theorem sa133 {T : zT} (h : zStr T) : zAr T 133 0 856 := zsa h 133 (by decide) rfl
theorem sa134 {T : zT} (h : zStr T) : zAr T 134 3 2 := zsa h 134 (by decide) rfl
theorem sa135 {T : zT} (h : zStr T) : zAr T 135 0 300 := zsa h 135 (by decide) rfl
theorem sa136 {T : zT} (h : zStr T) : zAr T 136 2 36 := zsa h 136 (by decide) rfl
theorem sa137 {T : zT} (h : zStr T) : zAr T 137 2 400 := zsa h 137 (by decide) rfl
theorem sa138 {T : zT} (h : zStr T) : zAr T 138 0 5 := zsa h 138 (by decide) rfl
theorem sa139 {T : zT} (h : zStr T) : zAr T 139 0 401 := zsa h 139 (by decide) rfl
theorem sa140 {T : zT} (h : zStr T) : zAr T 140 0 401 := zsa h 140 (by decide) rfl
theorem sa141 {T : zT} (h : zStr T) : zAr T 141 0 401 := zsa h 141 (by decide) rfl
theorem sa142 {T : zT} (h : zStr T) : zAr T 142 0 128 := zsa h 142 (by decide) rfl
theorem sa143 {T : zT} (h : zStr T) : zAr T 143 0 128 := zsa h 143 (by decide) rfl
theorem sa144 {T : zT} (h : zStr T) : zAr T 144 3 729 := zsa h 144 (by decide) rfl
theorem sa145 {T : zT} (h : zStr T) : zAr T 145 0 12096 := zsa h 145 (by decide) rfl
theorem sa146 {T : zT} (h : zStr T) : zAr T 146 3 448 := zsa h 146 (by decide) rfl
theorem sa147 {T : zT} (h : zStr T) : zAr T 147 0 2 := zsa h 147 (by decide) rfl
theorem sa148 {T : zT} (h : zStr T) : zAr T 148 1 50176 := zsa h 148 (by decide) rfl
theorem sa149 {T : zT} (h : zStr T) : zAr T 149 1 50176 := zsa h 149 (by decide) rfl
theorem sa150 {T : zT} (h : zStr T) : zAr T 150 0 729 := zsa h 150 (by decide) rfl
theorem sa151 {T : zT} (h : zStr T) : zAr T 151 0 852992 := zsa h 151 (by decide) rfl
theorem sa152 {T : zT} (h : zStr T) : zAr T 152 0 729 := zsa h 152 (by decide) rfl
theorem sp0_0 {T : zT} (h : zStr T) : zp T 0 0 = 1 := zspt h 0 rfl
theorem sp0_1 {T : zT} (h : zStr T) : zp T 0 1 = 28 := zspt h 1 rfl
theorem sp0_2 {T : zT} (h : zStr T) : zp T 0 2 = 55 := zspt h 2 rfl
theorem sp0_3 {T : zT} (h : zStr T) : zp T 0 3 = 56 := zspt h 3 rfl
theorem sp0_4 {T : zT} (h : zStr T) : zp T 0 4 = 58 := zspt h 4 rfl
theorem sp0_5 {T : zT} (h : zStr T) : zp T 0 5 = 59 := zspt h 5 rfl
theorem sp0_6 {T : zT} (h : zStr T) : zp T 0 6 = 65 := zspt h 6 rfl
theorem sp0_7 {T : zT} (h : zStr T) : zp T 0 7 = 71 := zspt h 7 rfl
theorem sp0_8 {T : zT} (h : zStr T) : zp T 0 8 = 77 := zspt h 8 rfl
theorem sp0_9 {T : zT} (h : zStr T) : zp T 0 9 = 78 := zspt h 9 rfl
theorem sp0_10 {T : zT} (h : zStr T) : zp T 0 10 = 112 := zspt h 10 rfl
theorem sp0_11 {T : zT} (h : zStr T) : zp T 0 11 = 120 := zspt h 11 rfl
theorem sp0_12 {T : zT} (h : zStr T) : zp T 0 12 = 128 := zspt h 12 rfl
theorem sp0_13 {T : zT} (h : zStr T) : zp T 0 13 = 129 := zspt h 13 rfl
theorem sp1_1 {T : zT} (h : zStr T) : zp T 1 1 = 2 := zspt h 14 rfl
theorem sp1_2 {T : zT} (h : zStr T) : zp T 1 2 = 3 := zspt h 15 rfl
theorem sp1_3 {T : zT} (h : zStr T) : zp T 1 3 = 4 := zspt h 16 rfl
theorem sp1_4 {T : zT} (h : zStr T) : zp T 1 4 = 5 := zspt h 17 rfl
theorem sp1_5 {T : zT} (h : zStr T) : zp T 1 5 = 6 := zspt h 18 rfl
theorem sp1_6 {T : zT} (h : zStr T) : zp T 1 6 = 14 := zspt h 19 rfl
theorem sp1_7 {T : zT} (h : zStr T) : zp T 1 7 = 22 := zspt h 20 rfl
theorem sp6_0 {T : zT} (h : zStr T) : zp T 6 0 = 7 := zspt h 21 rfl
theorem sp6_1 {T : zT} (h : zStr T) : zp T 6 1 = 8 := zspt h 22 rfl
theorem sp6_2 {T : zT} (h : zStr T) : zp T 6 2 = 9 := zspt h 23 rfl
theorem sp6_3 {T : zT} (h : zStr T) : zp T 6 3 = 10 := zspt h 24 rfl
theorem sp6_4 {T : zT} (h : zStr T) : zp T 6 4 = 11 := zspt h 25 rfl
theorem sp6_6 {T : zT} (h : zStr T) : zp T 6 6 = 12 := zspt h 26 rfl
theorem sp6_8 {T : zT} (h : zStr T) : zp T 6 8 = 13 := zspt h 27 rfl
theorem sp14_0 {T : zT} (h : zStr T) : zp T 14 0 = 15 := zspt h 28 rfl
theorem sp14_1 {T : zT} (h : zStr T) : zp T 14 1 = 16 := zspt h 29 rfl
theorem sp14_2 {T : zT} (h : zStr T) : zp T 14 2 = 17 := zspt h 30 rfl
theorem sp14_3 {T : zT} (h : zStr T) : zp T 14 3 = 18 := zspt h 31 rfl
theorem sp14_4 {T : zT} (h : zStr T) : zp T 14 4 = 19 := zspt h 32 rfl
theorem sp14_6 {T : zT} (h : zStr T) : zp T 14 6 = 20 := zspt h 33 rfl
theorem sp14_8 {T : zT} (h : zStr T) : zp T 14 8 = 21 := zspt h 34 rfl
theorem sp22_0 {T : zT} (h : zStr T) : zp T 22 0 = 23 := zspt h 35 rfl
theorem sp22_1 {T : zT} (h : zStr T) : zp T 22 1 = 24 := zspt h 36 rfl
theorem sp22_2 {T : zT} (h : zStr T) : zp T 22 2 = 25 := zspt h 37 rfl
theorem sp22_3 {T : zT} (h : zStr T) : zp T 22 3 = 26 := zspt h 38 rfl
theorem sp22_4 {T : zT} (h : zStr T) : zp T 22 4 = 27 := zspt h 39 rfl
theorem sp28_1 {T : zT} (h : zStr T) : zp T 28 1 = 29 := zspt h 40 rfl
theorem sp28_2 {T : zT} (h : zStr T) : zp T 28 2 = 30 := zspt h 41 rfl
theorem sp28_3 {T : zT} (h : zStr T) : zp T 28 3 = 31 := zspt h 42 rfl
theorem sp28_4 {T : zT} (h : zStr T) : zp T 28 4 = 32 := zspt h 43 rfl
theorem sp28_5 {T : zT} (h : zStr T) : zp T 28 5 = 33 := zspt h 44 rfl
theorem sp28_6 {T : zT} (h : zStr T) : zp T 28 6 = 41 := zspt h 45 rfl
theorem sp28_7 {T : zT} (h : zStr T) : zp T 28 7 = 49 := zspt h 46 rfl
theorem sp33_0 {T : zT} (h : zStr T) : zp T 33 0 = 34 := zspt h 47 rfl
theorem sp33_1 {T : zT} (h : zStr T) : zp T 33 1 = 35 := zspt h 48 rfl
theorem sp33_2 {T : zT} (h : zStr T) : zp T 33 2 = 36 := zspt h 49 rfl
theorem sp33_3 {T : zT} (h : zStr T) : zp T 33 3 = 37 := zspt h 50 rfl
theorem sp33_4 {T : zT} (h : zStr T) : zp T 33 4 = 38 := zspt h 51 rfl
theorem sp33_6 {T : zT} (h : zStr T) : zp T 33 6 = 39 := zspt h 52 rfl
theorem sp33_8 {T : zT} (h : zStr T) : zp T 33 8 = 40 := zspt h 53 rfl
theorem sp41_0 {T : zT} (h : zStr T) : zp T 41 0 = 42 := zspt h 54 rfl
theorem sp41_1 {T : zT} (h : zStr T) : zp T 41 1 = 43 := zspt h 55 rfl
theorem sp41_2 {T : zT} (h : zStr T) : zp T 41 2 = 44 := zspt h 56 rfl
theorem sp41_3 {T : zT} (h : zStr T) : zp T 41 3 = 45 := zspt h 57 rfl
theorem sp41_4 {T : zT} (h : zStr T) : zp T 41 4 = 46 := zspt h 58 rfl
theorem sp41_6 {T : zT} (h : zStr T) : zp T 41 6 = 47 := zspt h 59 rfl
theorem sp41_8 {T : zT} (h : zStr T) : zp T 41 8 = 48 := zspt h 60 rfl
theorem sp49_0 {T : zT} (h : zStr T) : zp T 49 0 = 50 := zspt h 61 rfl
theorem sp49_1 {T : zT} (h : zStr T) : zp T 49 1 = 51 := zspt h 62 rfl
theorem sp49_2 {T : zT} (h : zStr T) : zp T 49 2 = 52 := zspt h 63 rfl
theorem sp49_3 {T : zT} (h : zStr T) : zp T 49 3 = 53 := zspt h 64 rfl
theorem sp49_4 {T : zT} (h : zStr T) : zp T 49 4 = 54 := zspt h 65 rfl
theorem sp56_0 {T : zT} (h : zStr T) : zp T 56 0 = 57 := zspt h 66 rfl
theorem sp58_0 {T : zT} (h : zStr T) : zp T 58 0 = 56 := zspt h 67 rfl
theorem sp58_1 {T : zT} (h : zStr T) : zp T 58 1 = 28 := zspt h 68 rfl
theorem sp59_0 {T : zT} (h : zStr T) : zp T 59 0 = 60 := zspt h 69 rfl
theorem sp59_1 {T : zT} (h : zStr T) : zp T 59 1 = 61 := zspt h 70 rfl
theorem sp59_2 {T : zT} (h : zStr T) : zp T 59 2 = 62 := zspt h 71 rfl
theorem sp59_3 {T : zT} (h : zStr T) : zp T 59 3 = 63 := zspt h 72 rfl
theorem sp59_4 {T : zT} (h : zStr T) : zp T 59 4 = 64 := zspt h 73 rfl
theorem sp65_0 {T : zT} (h : zStr T) : zp T 65 0 = 66 := zspt h 74 rfl
theorem sp65_1 {T : zT} (h : zStr T) : zp T 65 1 = 67 := zspt h 75 rfl
theorem sp65_2 {T : zT} (h : zStr T) : zp T 65 2 = 68 := zspt h 76 rfl
theorem sp65_3 {T : zT} (h : zStr T) : zp T 65 3 = 69 := zspt h 77 rfl
theorem sp65_4 {T : zT} (h : zStr T) : zp T 65 4 = 70 := zspt h 78 rfl
theorem sp71_0 {T : zT} (h : zStr T) : zp T 71 0 = 72 := zspt h 79 rfl
theorem sp71_1 {T : zT} (h : zStr T) : zp T 71 1 = 73 := zspt h 80 rfl
theorem sp71_2 {T : zT} (h : zStr T) : zp T 71 2 = 74 := zspt h 81 rfl
theorem sp71_3 {T : zT} (h : zStr T) : zp T 71 3 = 75 := zspt h 82 rfl
theorem sp71_4 {T : zT} (h : zStr T) : zp T 71 4 = 76 := zspt h 83 rfl
theorem sp78_0 {T : zT} (h : zStr T) : zp T 78 0 = 79 := zspt h 84 rfl
theorem sp78_1 {T : zT} (h : zStr T) : zp T 78 1 = 87 := zspt h 85 rfl
theorem sp79_0 {T : zT} (h : zStr T) : zp T 79 0 = 80 := zspt h 86 rfl
theorem sp79_1 {T : zT} (h : zStr T) : zp T 79 1 = 81 := zspt h 87 rfl
theorem sp79_2 {T : zT} (h : zStr T) : zp T 79 2 = 82 := zspt h 88 rfl
theorem sp79_3 {T : zT} (h : zStr T) : zp T 79 3 = 83 := zspt h 89 rfl
theorem sp79_4 {T : zT} (h : zStr T) : zp T 79 4 = 84 := zspt h 90 rfl
theorem sp79_6 {T : zT} (h : zStr T) : zp T 79 6 = 85 := zspt h 91 rfl
theorem sp79_7 {T : zT} (h : zStr T) : zp T 79 7 = 86 := zspt h 92 rfl
theorem sp87_0 {T : zT} (h : zStr T) : zp T 87 0 = 88 := zspt h 93 rfl
theorem sp87_1 {T : zT} (h : zStr T) : zp T 87 1 = 89 := zspt h 94 rfl
theorem sp87_2 {T : zT} (h : zStr T) : zp T 87 2 = 90 := zspt h 95 rfl
theorem sp87_3 {T : zT} (h : zStr T) : zp T 87 3 = 91 := zspt h 96 rfl
theorem sp87_4 {T : zT} (h : zStr T) : zp T 87 4 = 92 := zspt h 97 rfl
theorem sp87_6 {T : zT} (h : zStr T) : zp T 87 6 = 93 := zspt h 98 rfl
theorem sp87_7 {T : zT} (h : zStr T) : zp T 87 7 = 94 := zspt h 99 rfl
theorem sp112_1 {T : zT} (h : zStr T) : zp T 112 1 = 113 := zspt h 100 rfl
theorem sp112_2 {T : zT} (h : zStr T) : zp T 112 2 = 114 := zspt h 101 rfl
theorem sp112_3 {T : zT} (h : zStr T) : zp T 112 3 = 115 := zspt h 102 rfl
theorem sp112_4 {T : zT} (h : zStr T) : zp T 112 4 = 116 := zspt h 103 rfl
theorem sp112_5 {T : zT} (h : zStr T) : zp T 112 5 = 117 := zspt h 104 rfl
theorem sp112_6 {T : zT} (h : zStr T) : zp T 112 6 = 118 := zspt h 105 rfl
theorem sp112_7 {T : zT} (h : zStr T) : zp T 112 7 = 119 := zspt h 106 rfl
theorem sp120_1 {T : zT} (h : zStr T) : zp T 120 1 = 121 := zspt h 107 rfl
theorem sp120_2 {T : zT} (h : zStr T) : zp T 120 2 = 122 := zspt h 108 rfl
theorem sp120_3 {T : zT} (h : zStr T) : zp T 120 3 = 123 := zspt h 109 rfl
theorem sp120_4 {T : zT} (h : zStr T) : zp T 120 4 = 124 := zspt h 110 rfl
theorem sp120_5 {T : zT} (h : zStr T) : zp T 120 5 = 125 := zspt h 111 rfl
theorem sp120_6 {T : zT} (h : zStr T) : zp T 120 6 = 126 := zspt h 112 rfl
theorem sp120_7 {T : zT} (h : zStr T) : zp T 120 7 = 127 := zspt h 113 rfl
theorem sp130_3 {T : zT} (h : zStr T) : zp T 130 3 = 131 := zspt h 114 rfl
theorem sp130_4 {T : zT} (h : zStr T) : zp T 130 4 = 132 := zspt h 115 rfl
theorem sp130_5 {T : zT} (h : zStr T) : zp T 130 5 = 133 := zspt h 116 rfl
theorem sp130_6 {T : zT} (h : zStr T) : zp T 130 6 = 134 := zspt h 117 rfl
theorem sp130_7 {T : zT} (h : zStr T) : zp T 130 7 = 135 := zspt h 118 rfl
theorem sp130_9 {T : zT} (h : zStr T) : zp T 130 9 = 136 := zspt h 119 rfl
theorem sp130_10 {T : zT} (h : zStr T) : zp T 130 10 = 137 := zspt h 120 rfl
theorem sp130_11 {T : zT} (h : zStr T) : zp T 130 11 = 138 := zspt h 121 rfl
theorem sp130_14 {T : zT} (h : zStr T) : zp T 130 14 = 139 := zspt h 122 rfl
theorem sp130_15 {T : zT} (h : zStr T) : zp T 130 15 = 140 := zspt h 123 rfl
theorem sp130_16 {T : zT} (h : zStr T) : zp T 130 16 = 141 := zspt h 124 rfl
theorem sp130_22 {T : zT} (h : zStr T) : zp T 130 22 = 142 := zspt h 125 rfl
theorem sp130_23 {T : zT} (h : zStr T) : zp T 130 23 = 143 := zspt h 126 rfl
theorem sp130_24 {T : zT} (h : zStr T) : zp T 130 24 = 144 := zspt h 127 rfl
theorem sp130_28 {T : zT} (h : zStr T) : zp T 130 28 = 145 := zspt h 128 rfl
theorem sp130_29 {T : zT} (h : zStr T) : zp T 130 29 = 146 := zspt h 129 rfl
theorem sp130_30 {T : zT} (h : zStr T) : zp T 130 30 = 147 := zspt h 130 rfl
theorem sp130_32 {T : zT} (h : zStr T) : zp T 130 32 = 148 := zspt h 131 rfl
theorem sp130_33 {T : zT} (h : zStr T) : zp T 130 33 = 149 := zspt h 132 rfl
theorem sp130_34 {T : zT} (h : zStr T) : zp T 130 34 = 150 := zspt h 133 rfl
theorem sp130_35 {T : zT} (h : zStr T) : zp T 130 35 = 151 := zspt h 134 rfl
theorem sp130_36 {T : zT} (h : zStr T) : zp T 130 36 = 152 := zspt h 135 rfl
def zTongue (T : zT) (b : Int) : Prop := zO T b 9 ∧ zp T b 0 = b + 1 ∧ zp T b 1 = b + 2 ∧ zp T b 2 = b + 3 ∧ zp T b 3 = b + 4 ∧ zp T b 4 = b + 5 ∧ zp T b 6 = b + 6 ∧ zp T b 8 = b + 7 ∧ zAr T (b + 1) 0 26 ∧ zAr T (b + 2) 0 26 ∧ zAr T (b + 3) 0 8 ∧ zAr T (b + 4) 0 8 ∧ zAr T (b + 5) 0 48 ∧ zAr T (b + 6) 0 16 ∧ zAr T (b + 7) 0 4
theorem zTongue.o {T : zT} {b : Int} (h : zTongue T b) : zO T b 9 := h.1
theorem zTongue.p0 {T : zT} {b : Int} (h : zTongue T b) : zp T b 0 = b + 1 := h.2.1
theorem zTongue.p1 {T : zT} {b : Int} (h : zTongue T b) : zp T b 1 = b + 2 := h.2.2.1
theorem zTongue.p2 {T : zT} {b : Int} (h : zTongue T b) : zp T b 2 = b + 3 := h.2.2.2.1
theorem zTongue.p3 {T : zT} {b : Int} (h : zTongue T b) : zp T b 3 = b + 4 := h.2.2.2.2.1
theorem zTongue.p4 {T : zT} {b : Int} (h : zTongue T b) : zp T b 4 = b + 5 := h.2.2.2.2.2.1
theorem zTongue.p6 {T : zT} {b : Int} (h : zTongue T b) : zp T b 6 = b + 6 := h.2.2.2.2.2.2.1
theorem zTongue.p8 {T : zT} {b : Int} (h : zTongue T b) : zp T b 8 = b + 7 := h.2.2.2.2.2.2.2.1
theorem zTongue.a1 {T : zT} {b : Int} (h : zTongue T b) : zAr T (b + 1) 0 26 := h.2.2.2.2.2.2.2.2.1
theorem zTongue.a2 {T : zT} {b : Int} (h : zTongue T b) : zAr T (b + 2) 0 26 := h.2.2.2.2.2.2.2.2.2.1
theorem zTongue.a3 {T : zT} {b : Int} (h : zTongue T b) : zAr T (b + 3) 0 8 := h.2.2.2.2.2.2.2.2.2.2.1
theorem zTongue.a4 {T : zT} {b : Int} (h : zTongue T b) : zAr T (b + 4) 0 8 := h.2.2.2.2.2.2.2.2.2.2.2.1
theorem zTongue.a5 {T : zT} {b : Int} (h : zTongue T b) : zAr T (b + 5) 0 48 := h.2.2.2.2.2.2.2.2.2.2.2.2.1
theorem zTongue.a6 {T : zT} {b : Int} (h : zTongue T b) : zAr T (b + 6) 0 16 := h.2.2.2.2.2.2.2.2.2.2.2.2.2.1
theorem zTongue.a7 {T : zT} {b : Int} (h : zTongue T b) : zAr T (b + 7) 0 4 := h.2.2.2.2.2.2.2.2.2.2.2.2.2.2
def zYards (T : zT) (b : Int) : Prop := zO T b 10 ∧ zp T b 0 = b + 1 ∧ zp T b 1 = b + 2 ∧ zp T b 2 = b + 3 ∧ zp T b 3 = b + 4 ∧ zp T b 4 = b + 5 ∧ zAr T (b + 1) 0 10 ∧ zAr T (b + 2) 0 10 ∧ zAr T (b + 3) 0 10 ∧ zAr T (b + 4) 0 10 ∧ zAr T (b + 5) 0 10
theorem zYards.o {T : zT} {b : Int} (h : zYards T b) : zO T b 10 := h.1
theorem zYards.p0 {T : zT} {b : Int} (h : zYards T b) : zp T b 0 = b + 1 := h.2.1
theorem zYards.p1 {T : zT} {b : Int} (h : zYards T b) : zp T b 1 = b + 2 := h.2.2.1
theorem zYards.p2 {T : zT} {b : Int} (h : zYards T b) : zp T b 2 = b + 3 := h.2.2.2.1
theorem zYards.p3 {T : zT} {b : Int} (h : zYards T b) : zp T b 3 = b + 4 := h.2.2.2.2.1
theorem zYards.p4 {T : zT} {b : Int} (h : zYards T b) : zp T b 4 = b + 5 := h.2.2.2.2.2.1
theorem zYards.a1 {T : zT} {b : Int} (h : zYards T b) : zAr T (b + 1) 0 10 := h.2.2.2.2.2.2.1
theorem zYards.a2 {T : zT} {b : Int} (h : zYards T b) : zAr T (b + 2) 0 10 := h.2.2.2.2.2.2.2.1
theorem zYards.a3 {T : zT} {b : Int} (h : zYards T b) : zAr T (b + 3) 0 10 := h.2.2.2.2.2.2.2.2.1
theorem zYards.a4 {T : zT} {b : Int} (h : zYards T b) : zAr T (b + 4) 0 10 := h.2.2.2.2.2.2.2.2.2.1
theorem zYards.a5 {T : zT} {b : Int} (h : zYards T b) : zAr T (b + 5) 0 10 := h.2.2.2.2.2.2.2.2.2.2
def zPairT (T : zT) (b : Int) : Prop := zO T b 3 ∧ zp T b 0 = b + 1 ∧ zp T b 1 = b + 2 ∧ zp T b 2 = b + 3 ∧ zp T b 3 = b + 4 ∧ zp T b 4 = b + 5 ∧ zAr T (b + 1) 0 729 ∧ zAr T (b + 2) 0 729 ∧ zAr T (b + 3) 0 729 ∧ zAr T (b + 4) 0 729 ∧ zAr T (b + 5) 0 128
theorem zPairT.o {T : zT} {b : Int} (h : zPairT T b) : zO T b 3 := h.1
theorem zPairT.p0 {T : zT} {b : Int} (h : zPairT T b) : zp T b 0 = b + 1 := h.2.1
theorem zPairT.p1 {T : zT} {b : Int} (h : zPairT T b) : zp T b 1 = b + 2 := h.2.2.1
theorem zPairT.p2 {T : zT} {b : Int} (h : zPairT T b) : zp T b 2 = b + 3 := h.2.2.2.1
theorem zPairT.p3 {T : zT} {b : Int} (h : zPairT T b) : zp T b 3 = b + 4 := h.2.2.2.2.1
theorem zPairT.p4 {T : zT} {b : Int} (h : zPairT T b) : zp T b 4 = b + 5 := h.2.2.2.2.2.1
theorem zPairT.a1 {T : zT} {b : Int} (h : zPairT T b) : zAr T (b + 1) 0 729 := h.2.2.2.2.2.2.1
theorem zPairT.a2 {T : zT} {b : Int} (h : zPairT T b) : zAr T (b + 2) 0 729 := h.2.2.2.2.2.2.2.1
theorem zPairT.a3 {T : zT} {b : Int} (h : zPairT T b) : zAr T (b + 3) 0 729 := h.2.2.2.2.2.2.2.2.1
theorem zPairT.a4 {T : zT} {b : Int} (h : zPairT T b) : zAr T (b + 4) 0 729 := h.2.2.2.2.2.2.2.2.2.1
theorem zPairT.a5 {T : zT} {b : Int} (h : zPairT T b) : zAr T (b + 5) 0 128 := h.2.2.2.2.2.2.2.2.2.2
def zRows (T : zT) (b : Int) : Prop := zO T b 5 ∧ zp T b 0 = b + 1 ∧ zp T b 1 = b + 2 ∧ zp T b 2 = b + 3 ∧ zp T b 3 = b + 4 ∧ zp T b 4 = b + 5 ∧ zp T b 6 = b + 6 ∧ zp T b 7 = b + 7 ∧ zAr T (b + 1) 0 196 ∧ zAr T (b + 2) 0 196 ∧ zAr T (b + 3) 0 196 ∧ zAr T (b + 4) 0 196 ∧ zAr T (b + 5) 3 196 ∧ zAr T (b + 6) 0 9 ∧ zAr T (b + 7) 0 9
theorem zRows.o {T : zT} {b : Int} (h : zRows T b) : zO T b 5 := h.1
theorem zRows.p0 {T : zT} {b : Int} (h : zRows T b) : zp T b 0 = b + 1 := h.2.1
theorem zRows.p1 {T : zT} {b : Int} (h : zRows T b) : zp T b 1 = b + 2 := h.2.2.1
theorem zRows.p2 {T : zT} {b : Int} (h : zRows T b) : zp T b 2 = b + 3 := h.2.2.2.1
theorem zRows.p3 {T : zT} {b : Int} (h : zRows T b) : zp T b 3 = b + 4 := h.2.2.2.2.1
theorem zRows.p4 {T : zT} {b : Int} (h : zRows T b) : zp T b 4 = b + 5 := h.2.2.2.2.2.1
theorem zRows.p6 {T : zT} {b : Int} (h : zRows T b) : zp T b 6 = b + 6 := h.2.2.2.2.2.2.1
theorem zRows.p7 {T : zT} {b : Int} (h : zRows T b) : zp T b 7 = b + 7 := h.2.2.2.2.2.2.2.1
theorem zRows.a1 {T : zT} {b : Int} (h : zRows T b) : zAr T (b + 1) 0 196 := h.2.2.2.2.2.2.2.2.1
theorem zRows.a2 {T : zT} {b : Int} (h : zRows T b) : zAr T (b + 2) 0 196 := h.2.2.2.2.2.2.2.2.2.1
theorem zRows.a3 {T : zT} {b : Int} (h : zRows T b) : zAr T (b + 3) 0 196 := h.2.2.2.2.2.2.2.2.2.2.1
theorem zRows.a4 {T : zT} {b : Int} (h : zRows T b) : zAr T (b + 4) 0 196 := h.2.2.2.2.2.2.2.2.2.2.2.1
theorem zRows.a5 {T : zT} {b : Int} (h : zRows T b) : zAr T (b + 5) 3 196 := h.2.2.2.2.2.2.2.2.2.2.2.2.1
theorem zRows.a6 {T : zT} {b : Int} (h : zRows T b) : zAr T (b + 6) 0 9 := h.2.2.2.2.2.2.2.2.2.2.2.2.2.1
theorem zRows.a7 {T : zT} {b : Int} (h : zRows T b) : zAr T (b + 7) 0 9 := h.2.2.2.2.2.2.2.2.2.2.2.2.2.2
def zState (T : zT) (b : Int) : Prop := zO T b 6 ∧ zp T b 1 = b + 1 ∧ zp T b 2 = b + 2 ∧ zp T b 3 = b + 3 ∧ zp T b 4 = b + 4 ∧ zp T b 5 = b + 5 ∧ zp T b 6 = b + 13 ∧ zp T b 7 = b + 21 ∧ zAr T (b + 1) 0 16 ∧ zAr T (b + 2) 0 16 ∧ zAr T (b + 3) 0 7 ∧ zAr T (b + 4) 0 7 ∧ zTongue T (b + 5) ∧ zTongue T (b + 13) ∧ zYards T (b + 21)
theorem zState.o {T : zT} {b : Int} (h : zState T b) : zO T b 6 := h.1
theorem zState.p1 {T : zT} {b : Int} (h : zState T b) : zp T b 1 = b + 1 := h.2.1
theorem zState.p2 {T : zT} {b : Int} (h : zState T b) : zp T b 2 = b + 2 := h.2.2.1
theorem zState.p3 {T : zT} {b : Int} (h : zState T b) : zp T b 3 = b + 3 := h.2.2.2.1
theorem zState.p4 {T : zT} {b : Int} (h : zState T b) : zp T b 4 = b + 4 := h.2.2.2.2.1
theorem zState.p5 {T : zT} {b : Int} (h : zState T b) : zp T b 5 = b + 5 := h.2.2.2.2.2.1
theorem zState.p6 {T : zT} {b : Int} (h : zState T b) : zp T b 6 = b + 13 := h.2.2.2.2.2.2.1
theorem zState.p7 {T : zT} {b : Int} (h : zState T b) : zp T b 7 = b + 21 := h.2.2.2.2.2.2.2.1
theorem zState.a1 {T : zT} {b : Int} (h : zState T b) : zAr T (b + 1) 0 16 := h.2.2.2.2.2.2.2.2.1
theorem zState.a2 {T : zT} {b : Int} (h : zState T b) : zAr T (b + 2) 0 16 := h.2.2.2.2.2.2.2.2.2.1
theorem zState.a3 {T : zT} {b : Int} (h : zState T b) : zAr T (b + 3) 0 7 := h.2.2.2.2.2.2.2.2.2.2.1
theorem zState.a4 {T : zT} {b : Int} (h : zState T b) : zAr T (b + 4) 0 7 := h.2.2.2.2.2.2.2.2.2.2.2.1
theorem zState.s5 {T : zT} {b : Int} (h : zState T b) : zTongue T (b + 5) := h.2.2.2.2.2.2.2.2.2.2.2.2.1
theorem zState.s13 {T : zT} {b : Int} (h : zState T b) : zTongue T (b + 13) := h.2.2.2.2.2.2.2.2.2.2.2.2.2.1
theorem zState.s21 {T : zT} {b : Int} (h : zState T b) : zYards T (b + 21) := h.2.2.2.2.2.2.2.2.2.2.2.2.2.2
def zLayer (T : zT) (q n : Int) : Prop := zO T q 1 ∧ zAr T (zp T q 1) 0 n ∧ zAr T (zp T q 2) 0 n ∧ zAr T (zp T q 3) 1 n ∧ zAr T (zp T q 4) 0 n ∧ zAr T (zp T q 5) 1 n ∧ zAr T (zp T q 6) 1 n ∧ zAr T (zp T q 7) 0 n
theorem zLayer.o {T : zT} {q n : Int} (h : zLayer T q n) : zO T q 1 := h.1
theorem zLayer.a1 {T : zT} {q n : Int} (h : zLayer T q n) : zAr T (zp T q 1) 0 n := h.2.1
theorem zLayer.a2 {T : zT} {q n : Int} (h : zLayer T q n) : zAr T (zp T q 2) 0 n := h.2.2.1
theorem zLayer.a3 {T : zT} {q n : Int} (h : zLayer T q n) : zAr T (zp T q 3) 1 n := h.2.2.2.1
theorem zLayer.a4 {T : zT} {q n : Int} (h : zLayer T q n) : zAr T (zp T q 4) 0 n := h.2.2.2.2.1
theorem zLayer.a5 {T : zT} {q n : Int} (h : zLayer T q n) : zAr T (zp T q 5) 1 n := h.2.2.2.2.2.1
theorem zLayer.a6 {T : zT} {q n : Int} (h : zLayer T q n) : zAr T (zp T q 6) 1 n := h.2.2.2.2.2.2.1
theorem zLayer.a7 {T : zT} {q n : Int} (h : zLayer T q n) : zAr T (zp T q 7) 0 n := h.2.2.2.2.2.2.2
theorem st6 {T : zT} (h : zStr T) : zTongue T 6 := ⟨so6 h, sp6_0 h, sp6_1 h, sp6_2 h, sp6_3 h, sp6_4 h, sp6_6 h, sp6_8 h, sa7 h, sa8 h, sa9 h, sa10 h, sa11 h, sa12 h, sa13 h⟩
theorem st14 {T : zT} (h : zStr T) : zTongue T 14 := ⟨so14 h, sp14_0 h, sp14_1 h, sp14_2 h, sp14_3 h, sp14_4 h, sp14_6 h, sp14_8 h, sa15 h, sa16 h, sa17 h, sa18 h, sa19 h, sa20 h, sa21 h⟩
theorem st33 {T : zT} (h : zStr T) : zTongue T 33 := ⟨so33 h, sp33_0 h, sp33_1 h, sp33_2 h, sp33_3 h, sp33_4 h, sp33_6 h, sp33_8 h, sa34 h, sa35 h, sa36 h, sa37 h, sa38 h, sa39 h, sa40 h⟩
theorem st41 {T : zT} (h : zStr T) : zTongue T 41 := ⟨so41 h, sp41_0 h, sp41_1 h, sp41_2 h, sp41_3 h, sp41_4 h, sp41_6 h, sp41_8 h, sa42 h, sa43 h, sa44 h, sa45 h, sa46 h, sa47 h, sa48 h⟩
theorem st22 {T : zT} (h : zStr T) : zYards T 22 := ⟨so22 h, sp22_0 h, sp22_1 h, sp22_2 h, sp22_3 h, sp22_4 h, sa23 h, sa24 h, sa25 h, sa26 h, sa27 h⟩
theorem st49 {T : zT} (h : zStr T) : zYards T 49 := ⟨so49 h, sp49_0 h, sp49_1 h, sp49_2 h, sp49_3 h, sp49_4 h, sa50 h, sa51 h, sa52 h, sa53 h, sa54 h⟩
theorem st65 {T : zT} (h : zStr T) : zPairT T 65 := ⟨so65 h, sp65_0 h, sp65_1 h, sp65_2 h, sp65_3 h, sp65_4 h, sa66 h, sa67 h, sa68 h, sa69 h, sa70 h⟩
theorem st71 {T : zT} (h : zStr T) : zPairT T 71 := ⟨so71 h, sp71_0 h, sp71_1 h, sp71_2 h, sp71_3 h, sp71_4 h, sa72 h, sa73 h, sa74 h, sa75 h, sa76 h⟩
theorem st79 {T : zT} (h : zStr T) : zRows T 79 := ⟨so79 h, sp79_0 h, sp79_1 h, sp79_2 h, sp79_3 h, sp79_4 h, sp79_6 h, sp79_7 h, sa80 h, sa81 h, sa82 h, sa83 h, sa84 h, sa85 h, sa86 h⟩
theorem st87 {T : zT} (h : zStr T) : zRows T 87 := ⟨so87 h, sp87_0 h, sp87_1 h, sp87_2 h, sp87_3 h, sp87_4 h, sp87_6 h, sp87_7 h, sa88 h, sa89 h, sa90 h, sa91 h, sa92 h, sa93 h, sa94 h⟩
theorem st1 {T : zT} (h : zStr T) : zState T 1 := ⟨so1 h, sp1_1 h, sp1_2 h, sp1_3 h, sp1_4 h, sp1_5 h, sp1_6 h, sp1_7 h, sa2 h, sa3 h, sa4 h, sa5 h, st6 h, st14 h, st22 h⟩
theorem st28 {T : zT} (h : zStr T) : zState T 28 := ⟨so28 h, sp28_1 h, sp28_2 h, sp28_3 h, sp28_4 h, sp28_5 h, sp28_6 h, sp28_7 h, sa29 h, sa30 h, sa31 h, sa32 h, st33 h, st41 h, st49 h⟩
theorem st112 {T : zT} (h : zStr T) : zLayer T 112 17 := by
  refine ⟨so112 h, ?_, ?_, ?_, ?_, ?_, ?_, ?_⟩
  · rw [sp112_1 h]; exact sa113 h
  · rw [sp112_2 h]; exact sa114 h
  · rw [sp112_3 h]; exact sa115 h
  · rw [sp112_4 h]; exact sa116 h
  · rw [sp112_5 h]; exact sa117 h
  · rw [sp112_6 h]; exact sa118 h
  · rw [sp112_7 h]; exact sa119 h
theorem st120 {T : zT} (h : zStr T) : zLayer T 120 1 := by
  refine ⟨so120 h, ?_, ?_, ?_, ?_, ?_, ?_, ?_⟩
  · rw [sp120_1 h]; exact sa121 h
  · rw [sp120_2 h]; exact sa122 h
  · rw [sp120_3 h]; exact sa123 h
  · rw [sp120_4 h]; exact sa124 h
  · rw [sp120_5 h]; exact sa125 h
  · rw [sp120_6 h]; exact sa126 h
  · rw [sp120_7 h]; exact sa127 h
