def q_frz : List (Nat × Nat × Nat) := [(0, 0, 1), (0, 1, 3), (0, 2, 4), (0, 3, 5), (0, 4, 12), (0, 5, 14), (0, 6, 15), (0, 7, 19), (0, 8, 23), (0, 9, 24), (0, 10, 25), (0, 11, 26), (1, 0, 2), (3, 0, 1), (4, 0, 3), (5, 0, 6), (5, 1, 7), (5, 2, 8), (5, 3, 9), (5, 4, 10), (5, 5, 11), (12, 0, 13), (15, 0, 16), (15, 1, 17), (15, 2, 18), (19, 0, 20), (19, 1, 21), (19, 2, 22), (23, 0, 75), (23, 1, 79), (23, 2, 83), (23, 3, 87), (23, 4, 91), (23, 5, 95), (23, 6, 99), (23, 7, 103), (23, 8, 107), (23, 9, 111), (23, 10, 115), (23, 11, 119), (23, 12, 123), (23, 13, 127), (23, 14, 131), (23, 15, 135), (24, 0, 139), (24, 1, 144), (24, 2, 149), (24, 3, 154), (25, 0, 143), (25, 1, 148), (25, 2, 153), (25, 3, 158), (27, 0, 28), (27, 1, 29), (27, 2, 30), (27, 3, 31), (27, 4, 32), (27, 5, 33), (27, 6, 34), (27, 7, 35), (27, 8, 36), (27, 9, 37), (27, 10, 38), (27, 11, 39), (27, 12, 40), (40, 0, 41), (40, 1, 42), (40, 2, 43), (40, 3, 44), (40, 4, 45), (46, 0, 47), (46, 1, 48), (46, 2, 49), (46, 3, 50), (46, 4, 51), (46, 5, 52), (46, 6, 53), (46, 7, 54), (46, 8, 55), (46, 9, 56), (46, 10, 57), (46, 11, 58), (46, 12, 59), (59, 0, 60), (59, 1, 61), (59, 2, 62), (59, 3, 63), (59, 4, 64), (65, 0, 66), (65, 1, 67), (65, 2, 68), (65, 3, 69), (70, 0, 71), (70, 1, 72), (70, 2, 73), (70, 3, 74), (75, 0, 76), (75, 1, 77), (75, 2, 78), (79, 0, 80), (79, 1, 81), (79, 2, 82), (83, 0, 84), (83, 1, 85), (83, 2, 86), (87, 0, 88), (87, 1, 89), (87, 2, 90), (91, 0, 92), (91, 1, 93), (91, 2, 94), (95, 0, 96), (95, 1, 97), (95, 2, 98), (99, 0, 100), (99, 1, 101), (99, 2, 102), (103, 0, 104), (103, 1, 105), (103, 2, 106), (107, 0, 108), (107, 1, 109), (107, 2, 110), (111, 0, 112), (111, 1, 113), (111, 2, 114), (115, 0, 116), (115, 1, 117), (115, 2, 118), (119, 0, 120), (119, 1, 121), (119, 2, 122), (123, 0, 124), (123, 1, 125), (123, 2, 126), (127, 0, 128), (127, 1, 129), (127, 2, 130), (131, 0, 132), (131, 1, 133), (131, 2, 134), (135, 0, 136), (135, 1, 137), (135, 2, 138), (139, 0, 140), (139, 1, 141), (139, 2, 142), (144, 0, 145), (144, 1, 146), (144, 2, 147), (149, 0, 150), (149, 1, 151), (149, 2, 152), (154, 0, 155), (154, 1, 156), (154, 2, 157), (159, 1, 160), (159, 4, 161), (159, 5, 162), (159, 6, 163), (159, 9, 164), (159, 10, 165), (159, 11, 166), (159, 12, 167), (159, 14, 168), (159, 15, 169), (159, 16, 170), (159, 17, 171), (159, 21, 172), (159, 22, 173), (159, 23, 174), (159, 24, 175), (159, 26, 176), (159, 27, 177), (159, 29, 178), (159, 30, 179), (159, 32, 180), (159, 35, 181)]
def q_Sh (σ : q_S) : Prop := q_n σ = q_NT ∧ ∀ x ∈ q_frz, q_R σ x.1 x.2.1 = some x.2.2
theorem q_lt {σ : q_S} {a t x : Nat} (hs : q_Sh σ) (hk : q_kd a = (t, x)) (ht : t < 9) : a < q_n σ := by rw [hs.1]; exact q_kd_lt hk ht
theorem fz_0_0 {σ : q_S} (hs : q_Sh σ) : q_R σ 0 0 = some 1 := hs.2 (0, 0, 1) (List.mem_of_getElem? (i := 0) rfl)
theorem fz_0_1 {σ : q_S} (hs : q_Sh σ) : q_R σ 0 1 = some 3 := hs.2 (0, 1, 3) (List.mem_of_getElem? (i := 1) rfl)
theorem fz_0_2 {σ : q_S} (hs : q_Sh σ) : q_R σ 0 2 = some 4 := hs.2 (0, 2, 4) (List.mem_of_getElem? (i := 2) rfl)
theorem fz_0_3 {σ : q_S} (hs : q_Sh σ) : q_R σ 0 3 = some 5 := hs.2 (0, 3, 5) (List.mem_of_getElem? (i := 3) rfl)
theorem fz_0_4 {σ : q_S} (hs : q_Sh σ) : q_R σ 0 4 = some 12 := hs.2 (0, 4, 12) (List.mem_of_getElem? (i := 4) rfl)
theorem fz_0_5 {σ : q_S} (hs : q_Sh σ) : q_R σ 0 5 = some 14 := hs.2 (0, 5, 14) (List.mem_of_getElem? (i := 5) rfl)
theorem fz_0_6 {σ : q_S} (hs : q_Sh σ) : q_R σ 0 6 = some 15 := hs.2 (0, 6, 15) (List.mem_of_getElem? (i := 6) rfl)
theorem fz_0_7 {σ : q_S} (hs : q_Sh σ) : q_R σ 0 7 = some 19 := hs.2 (0, 7, 19) (List.mem_of_getElem? (i := 7) rfl)
theorem fz_0_8 {σ : q_S} (hs : q_Sh σ) : q_R σ 0 8 = some 23 := hs.2 (0, 8, 23) (List.mem_of_getElem? (i := 8) rfl)
theorem fz_0_9 {σ : q_S} (hs : q_Sh σ) : q_R σ 0 9 = some 24 := hs.2 (0, 9, 24) (List.mem_of_getElem? (i := 9) rfl)
theorem fz_0_10 {σ : q_S} (hs : q_Sh σ) : q_R σ 0 10 = some 25 := hs.2 (0, 10, 25) (List.mem_of_getElem? (i := 10) rfl)
theorem fz_0_11 {σ : q_S} (hs : q_Sh σ) : q_R σ 0 11 = some 26 := hs.2 (0, 11, 26) (List.mem_of_getElem? (i := 11) rfl)
theorem fz_1_0 {σ : q_S} (hs : q_Sh σ) : q_R σ 1 0 = some 2 := hs.2 (1, 0, 2) (List.mem_of_getElem? (i := 12) rfl)
theorem fz_3_0 {σ : q_S} (hs : q_Sh σ) : q_R σ 3 0 = some 1 := hs.2 (3, 0, 1) (List.mem_of_getElem? (i := 13) rfl)
theorem fz_4_0 {σ : q_S} (hs : q_Sh σ) : q_R σ 4 0 = some 3 := hs.2 (4, 0, 3) (List.mem_of_getElem? (i := 14) rfl)
theorem fz_5_0 {σ : q_S} (hs : q_Sh σ) : q_R σ 5 0 = some 6 := hs.2 (5, 0, 6) (List.mem_of_getElem? (i := 15) rfl)
theorem fz_5_1 {σ : q_S} (hs : q_Sh σ) : q_R σ 5 1 = some 7 := hs.2 (5, 1, 7) (List.mem_of_getElem? (i := 16) rfl)
theorem fz_5_2 {σ : q_S} (hs : q_Sh σ) : q_R σ 5 2 = some 8 := hs.2 (5, 2, 8) (List.mem_of_getElem? (i := 17) rfl)
theorem fz_5_3 {σ : q_S} (hs : q_Sh σ) : q_R σ 5 3 = some 9 := hs.2 (5, 3, 9) (List.mem_of_getElem? (i := 18) rfl)
theorem fz_5_4 {σ : q_S} (hs : q_Sh σ) : q_R σ 5 4 = some 10 := hs.2 (5, 4, 10) (List.mem_of_getElem? (i := 19) rfl)
theorem fz_5_5 {σ : q_S} (hs : q_Sh σ) : q_R σ 5 5 = some 11 := hs.2 (5, 5, 11) (List.mem_of_getElem? (i := 20) rfl)
theorem fz_12_0 {σ : q_S} (hs : q_Sh σ) : q_R σ 12 0 = some 13 := hs.2 (12, 0, 13) (List.mem_of_getElem? (i := 21) rfl)
theorem fz_15_0 {σ : q_S} (hs : q_Sh σ) : q_R σ 15 0 = some 16 := hs.2 (15, 0, 16) (List.mem_of_getElem? (i := 22) rfl)
theorem fz_15_1 {σ : q_S} (hs : q_Sh σ) : q_R σ 15 1 = some 17 := hs.2 (15, 1, 17) (List.mem_of_getElem? (i := 23) rfl)
theorem fz_15_2 {σ : q_S} (hs : q_Sh σ) : q_R σ 15 2 = some 18 := hs.2 (15, 2, 18) (List.mem_of_getElem? (i := 24) rfl)
theorem fz_19_0 {σ : q_S} (hs : q_Sh σ) : q_R σ 19 0 = some 20 := hs.2 (19, 0, 20) (List.mem_of_getElem? (i := 25) rfl)
theorem fz_19_1 {σ : q_S} (hs : q_Sh σ) : q_R σ 19 1 = some 21 := hs.2 (19, 1, 21) (List.mem_of_getElem? (i := 26) rfl)
theorem fz_19_2 {σ : q_S} (hs : q_Sh σ) : q_R σ 19 2 = some 22 := hs.2 (19, 2, 22) (List.mem_of_getElem? (i := 27) rfl)
theorem fz_23_0 {σ : q_S} (hs : q_Sh σ) : q_R σ 23 0 = some 75 := hs.2 (23, 0, 75) (List.mem_of_getElem? (i := 28) rfl)
theorem fz_23_1 {σ : q_S} (hs : q_Sh σ) : q_R σ 23 1 = some 79 := hs.2 (23, 1, 79) (List.mem_of_getElem? (i := 29) rfl)
theorem fz_23_2 {σ : q_S} (hs : q_Sh σ) : q_R σ 23 2 = some 83 := hs.2 (23, 2, 83) (List.mem_of_getElem? (i := 30) rfl)
theorem fz_23_3 {σ : q_S} (hs : q_Sh σ) : q_R σ 23 3 = some 87 := hs.2 (23, 3, 87) (List.mem_of_getElem? (i := 31) rfl)
theorem fz_23_4 {σ : q_S} (hs : q_Sh σ) : q_R σ 23 4 = some 91 := hs.2 (23, 4, 91) (List.mem_of_getElem? (i := 32) rfl)
theorem fz_23_5 {σ : q_S} (hs : q_Sh σ) : q_R σ 23 5 = some 95 := hs.2 (23, 5, 95) (List.mem_of_getElem? (i := 33) rfl)
theorem fz_23_6 {σ : q_S} (hs : q_Sh σ) : q_R σ 23 6 = some 99 := hs.2 (23, 6, 99) (List.mem_of_getElem? (i := 34) rfl)
theorem fz_23_7 {σ : q_S} (hs : q_Sh σ) : q_R σ 23 7 = some 103 := hs.2 (23, 7, 103) (List.mem_of_getElem? (i := 35) rfl)
theorem fz_23_8 {σ : q_S} (hs : q_Sh σ) : q_R σ 23 8 = some 107 := hs.2 (23, 8, 107) (List.mem_of_getElem? (i := 36) rfl)
theorem fz_23_9 {σ : q_S} (hs : q_Sh σ) : q_R σ 23 9 = some 111 := hs.2 (23, 9, 111) (List.mem_of_getElem? (i := 37) rfl)
theorem fz_23_10 {σ : q_S} (hs : q_Sh σ) : q_R σ 23 10 = some 115 := hs.2 (23, 10, 115) (List.mem_of_getElem? (i := 38) rfl)
theorem fz_23_11 {σ : q_S} (hs : q_Sh σ) : q_R σ 23 11 = some 119 := hs.2 (23, 11, 119) (List.mem_of_getElem? (i := 39) rfl)
theorem fz_23_12 {σ : q_S} (hs : q_Sh σ) : q_R σ 23 12 = some 123 := hs.2 (23, 12, 123) (List.mem_of_getElem? (i := 40) rfl)
theorem fz_23_13 {σ : q_S} (hs : q_Sh σ) : q_R σ 23 13 = some 127 := hs.2 (23, 13, 127) (List.mem_of_getElem? (i := 41) rfl)
theorem fz_23_14 {σ : q_S} (hs : q_Sh σ) : q_R σ 23 14 = some 131 := hs.2 (23, 14, 131) (List.mem_of_getElem? (i := 42) rfl)
theorem fz_23_15 {σ : q_S} (hs : q_Sh σ) : q_R σ 23 15 = some 135 := hs.2 (23, 15, 135) (List.mem_of_getElem? (i := 43) rfl)
theorem fz_24_0 {σ : q_S} (hs : q_Sh σ) : q_R σ 24 0 = some 139 := hs.2 (24, 0, 139) (List.mem_of_getElem? (i := 44) rfl)
theorem fz_24_1 {σ : q_S} (hs : q_Sh σ) : q_R σ 24 1 = some 144 := hs.2 (24, 1, 144) (List.mem_of_getElem? (i := 45) rfl)
theorem fz_24_2 {σ : q_S} (hs : q_Sh σ) : q_R σ 24 2 = some 149 := hs.2 (24, 2, 149) (List.mem_of_getElem? (i := 46) rfl)
theorem fz_24_3 {σ : q_S} (hs : q_Sh σ) : q_R σ 24 3 = some 154 := hs.2 (24, 3, 154) (List.mem_of_getElem? (i := 47) rfl)
theorem fz_25_0 {σ : q_S} (hs : q_Sh σ) : q_R σ 25 0 = some 143 := hs.2 (25, 0, 143) (List.mem_of_getElem? (i := 48) rfl)
theorem fz_25_1 {σ : q_S} (hs : q_Sh σ) : q_R σ 25 1 = some 148 := hs.2 (25, 1, 148) (List.mem_of_getElem? (i := 49) rfl)
theorem fz_25_2 {σ : q_S} (hs : q_Sh σ) : q_R σ 25 2 = some 153 := hs.2 (25, 2, 153) (List.mem_of_getElem? (i := 50) rfl)
theorem fz_25_3 {σ : q_S} (hs : q_Sh σ) : q_R σ 25 3 = some 158 := hs.2 (25, 3, 158) (List.mem_of_getElem? (i := 51) rfl)
theorem fz_27_0 {σ : q_S} (hs : q_Sh σ) : q_R σ 27 0 = some 28 := hs.2 (27, 0, 28) (List.mem_of_getElem? (i := 52) rfl)
theorem fz_27_1 {σ : q_S} (hs : q_Sh σ) : q_R σ 27 1 = some 29 := hs.2 (27, 1, 29) (List.mem_of_getElem? (i := 53) rfl)
theorem fz_27_2 {σ : q_S} (hs : q_Sh σ) : q_R σ 27 2 = some 30 := hs.2 (27, 2, 30) (List.mem_of_getElem? (i := 54) rfl)
theorem fz_27_3 {σ : q_S} (hs : q_Sh σ) : q_R σ 27 3 = some 31 := hs.2 (27, 3, 31) (List.mem_of_getElem? (i := 55) rfl)
theorem fz_27_4 {σ : q_S} (hs : q_Sh σ) : q_R σ 27 4 = some 32 := hs.2 (27, 4, 32) (List.mem_of_getElem? (i := 56) rfl)
theorem fz_27_5 {σ : q_S} (hs : q_Sh σ) : q_R σ 27 5 = some 33 := hs.2 (27, 5, 33) (List.mem_of_getElem? (i := 57) rfl)
theorem fz_27_6 {σ : q_S} (hs : q_Sh σ) : q_R σ 27 6 = some 34 := hs.2 (27, 6, 34) (List.mem_of_getElem? (i := 58) rfl)
theorem fz_27_7 {σ : q_S} (hs : q_Sh σ) : q_R σ 27 7 = some 35 := hs.2 (27, 7, 35) (List.mem_of_getElem? (i := 59) rfl)
theorem fz_27_8 {σ : q_S} (hs : q_Sh σ) : q_R σ 27 8 = some 36 := hs.2 (27, 8, 36) (List.mem_of_getElem? (i := 60) rfl)
theorem fz_27_9 {σ : q_S} (hs : q_Sh σ) : q_R σ 27 9 = some 37 := hs.2 (27, 9, 37) (List.mem_of_getElem? (i := 61) rfl)
theorem fz_27_10 {σ : q_S} (hs : q_Sh σ) : q_R σ 27 10 = some 38 := hs.2 (27, 10, 38) (List.mem_of_getElem? (i := 62) rfl)
theorem fz_27_11 {σ : q_S} (hs : q_Sh σ) : q_R σ 27 11 = some 39 := hs.2 (27, 11, 39) (List.mem_of_getElem? (i := 63) rfl)
theorem fz_27_12 {σ : q_S} (hs : q_Sh σ) : q_R σ 27 12 = some 40 := hs.2 (27, 12, 40) (List.mem_of_getElem? (i := 64) rfl)
theorem fz_40_0 {σ : q_S} (hs : q_Sh σ) : q_R σ 40 0 = some 41 := hs.2 (40, 0, 41) (List.mem_of_getElem? (i := 65) rfl)
theorem fz_40_1 {σ : q_S} (hs : q_Sh σ) : q_R σ 40 1 = some 42 := hs.2 (40, 1, 42) (List.mem_of_getElem? (i := 66) rfl)
theorem fz_40_2 {σ : q_S} (hs : q_Sh σ) : q_R σ 40 2 = some 43 := hs.2 (40, 2, 43) (List.mem_of_getElem? (i := 67) rfl)
theorem fz_40_3 {σ : q_S} (hs : q_Sh σ) : q_R σ 40 3 = some 44 := hs.2 (40, 3, 44) (List.mem_of_getElem? (i := 68) rfl)
theorem fz_40_4 {σ : q_S} (hs : q_Sh σ) : q_R σ 40 4 = some 45 := hs.2 (40, 4, 45) (List.mem_of_getElem? (i := 69) rfl)
theorem fz_46_0 {σ : q_S} (hs : q_Sh σ) : q_R σ 46 0 = some 47 := hs.2 (46, 0, 47) (List.mem_of_getElem? (i := 70) rfl)
theorem fz_46_1 {σ : q_S} (hs : q_Sh σ) : q_R σ 46 1 = some 48 := hs.2 (46, 1, 48) (List.mem_of_getElem? (i := 71) rfl)
theorem fz_46_2 {σ : q_S} (hs : q_Sh σ) : q_R σ 46 2 = some 49 := hs.2 (46, 2, 49) (List.mem_of_getElem? (i := 72) rfl)
theorem fz_46_3 {σ : q_S} (hs : q_Sh σ) : q_R σ 46 3 = some 50 := hs.2 (46, 3, 50) (List.mem_of_getElem? (i := 73) rfl)
theorem fz_46_4 {σ : q_S} (hs : q_Sh σ) : q_R σ 46 4 = some 51 := hs.2 (46, 4, 51) (List.mem_of_getElem? (i := 74) rfl)
theorem fz_46_5 {σ : q_S} (hs : q_Sh σ) : q_R σ 46 5 = some 52 := hs.2 (46, 5, 52) (List.mem_of_getElem? (i := 75) rfl)
theorem fz_46_6 {σ : q_S} (hs : q_Sh σ) : q_R σ 46 6 = some 53 := hs.2 (46, 6, 53) (List.mem_of_getElem? (i := 76) rfl)
theorem fz_46_7 {σ : q_S} (hs : q_Sh σ) : q_R σ 46 7 = some 54 := hs.2 (46, 7, 54) (List.mem_of_getElem? (i := 77) rfl)
theorem fz_46_8 {σ : q_S} (hs : q_Sh σ) : q_R σ 46 8 = some 55 := hs.2 (46, 8, 55) (List.mem_of_getElem? (i := 78) rfl)
theorem fz_46_9 {σ : q_S} (hs : q_Sh σ) : q_R σ 46 9 = some 56 := hs.2 (46, 9, 56) (List.mem_of_getElem? (i := 79) rfl)
theorem fz_46_10 {σ : q_S} (hs : q_Sh σ) : q_R σ 46 10 = some 57 := hs.2 (46, 10, 57) (List.mem_of_getElem? (i := 80) rfl)
theorem fz_46_11 {σ : q_S} (hs : q_Sh σ) : q_R σ 46 11 = some 58 := hs.2 (46, 11, 58) (List.mem_of_getElem? (i := 81) rfl)
theorem fz_46_12 {σ : q_S} (hs : q_Sh σ) : q_R σ 46 12 = some 59 := hs.2 (46, 12, 59) (List.mem_of_getElem? (i := 82) rfl)
theorem fz_59_0 {σ : q_S} (hs : q_Sh σ) : q_R σ 59 0 = some 60 := hs.2 (59, 0, 60) (List.mem_of_getElem? (i := 83) rfl)
theorem fz_59_1 {σ : q_S} (hs : q_Sh σ) : q_R σ 59 1 = some 61 := hs.2 (59, 1, 61) (List.mem_of_getElem? (i := 84) rfl)
theorem fz_59_2 {σ : q_S} (hs : q_Sh σ) : q_R σ 59 2 = some 62 := hs.2 (59, 2, 62) (List.mem_of_getElem? (i := 85) rfl)
theorem fz_59_3 {σ : q_S} (hs : q_Sh σ) : q_R σ 59 3 = some 63 := hs.2 (59, 3, 63) (List.mem_of_getElem? (i := 86) rfl)
theorem fz_59_4 {σ : q_S} (hs : q_Sh σ) : q_R σ 59 4 = some 64 := hs.2 (59, 4, 64) (List.mem_of_getElem? (i := 87) rfl)
theorem fz_65_0 {σ : q_S} (hs : q_Sh σ) : q_R σ 65 0 = some 66 := hs.2 (65, 0, 66) (List.mem_of_getElem? (i := 88) rfl)
theorem fz_65_1 {σ : q_S} (hs : q_Sh σ) : q_R σ 65 1 = some 67 := hs.2 (65, 1, 67) (List.mem_of_getElem? (i := 89) rfl)
theorem fz_65_2 {σ : q_S} (hs : q_Sh σ) : q_R σ 65 2 = some 68 := hs.2 (65, 2, 68) (List.mem_of_getElem? (i := 90) rfl)
theorem fz_65_3 {σ : q_S} (hs : q_Sh σ) : q_R σ 65 3 = some 69 := hs.2 (65, 3, 69) (List.mem_of_getElem? (i := 91) rfl)
theorem fz_70_0 {σ : q_S} (hs : q_Sh σ) : q_R σ 70 0 = some 71 := hs.2 (70, 0, 71) (List.mem_of_getElem? (i := 92) rfl)
theorem fz_70_1 {σ : q_S} (hs : q_Sh σ) : q_R σ 70 1 = some 72 := hs.2 (70, 1, 72) (List.mem_of_getElem? (i := 93) rfl)
theorem fz_70_2 {σ : q_S} (hs : q_Sh σ) : q_R σ 70 2 = some 73 := hs.2 (70, 2, 73) (List.mem_of_getElem? (i := 94) rfl)
theorem fz_70_3 {σ : q_S} (hs : q_Sh σ) : q_R σ 70 3 = some 74 := hs.2 (70, 3, 74) (List.mem_of_getElem? (i := 95) rfl)
theorem fz_75_0 {σ : q_S} (hs : q_Sh σ) : q_R σ 75 0 = some 76 := hs.2 (75, 0, 76) (List.mem_of_getElem? (i := 96) rfl)
theorem fz_75_1 {σ : q_S} (hs : q_Sh σ) : q_R σ 75 1 = some 77 := hs.2 (75, 1, 77) (List.mem_of_getElem? (i := 97) rfl)
theorem fz_75_2 {σ : q_S} (hs : q_Sh σ) : q_R σ 75 2 = some 78 := hs.2 (75, 2, 78) (List.mem_of_getElem? (i := 98) rfl)
theorem fz_79_0 {σ : q_S} (hs : q_Sh σ) : q_R σ 79 0 = some 80 := hs.2 (79, 0, 80) (List.mem_of_getElem? (i := 99) rfl)
theorem fz_79_1 {σ : q_S} (hs : q_Sh σ) : q_R σ 79 1 = some 81 := hs.2 (79, 1, 81) (List.mem_of_getElem? (i := 100) rfl)
theorem fz_79_2 {σ : q_S} (hs : q_Sh σ) : q_R σ 79 2 = some 82 := hs.2 (79, 2, 82) (List.mem_of_getElem? (i := 101) rfl)
theorem fz_83_0 {σ : q_S} (hs : q_Sh σ) : q_R σ 83 0 = some 84 := hs.2 (83, 0, 84) (List.mem_of_getElem? (i := 102) rfl)
theorem fz_83_1 {σ : q_S} (hs : q_Sh σ) : q_R σ 83 1 = some 85 := hs.2 (83, 1, 85) (List.mem_of_getElem? (i := 103) rfl)
theorem fz_83_2 {σ : q_S} (hs : q_Sh σ) : q_R σ 83 2 = some 86 := hs.2 (83, 2, 86) (List.mem_of_getElem? (i := 104) rfl)
theorem fz_87_0 {σ : q_S} (hs : q_Sh σ) : q_R σ 87 0 = some 88 := hs.2 (87, 0, 88) (List.mem_of_getElem? (i := 105) rfl)
theorem fz_87_1 {σ : q_S} (hs : q_Sh σ) : q_R σ 87 1 = some 89 := hs.2 (87, 1, 89) (List.mem_of_getElem? (i := 106) rfl)
theorem fz_87_2 {σ : q_S} (hs : q_Sh σ) : q_R σ 87 2 = some 90 := hs.2 (87, 2, 90) (List.mem_of_getElem? (i := 107) rfl)
theorem fz_91_0 {σ : q_S} (hs : q_Sh σ) : q_R σ 91 0 = some 92 := hs.2 (91, 0, 92) (List.mem_of_getElem? (i := 108) rfl)
theorem fz_91_1 {σ : q_S} (hs : q_Sh σ) : q_R σ 91 1 = some 93 := hs.2 (91, 1, 93) (List.mem_of_getElem? (i := 109) rfl)
theorem fz_91_2 {σ : q_S} (hs : q_Sh σ) : q_R σ 91 2 = some 94 := hs.2 (91, 2, 94) (List.mem_of_getElem? (i := 110) rfl)
theorem fz_95_0 {σ : q_S} (hs : q_Sh σ) : q_R σ 95 0 = some 96 := hs.2 (95, 0, 96) (List.mem_of_getElem? (i := 111) rfl)
theorem fz_95_1 {σ : q_S} (hs : q_Sh σ) : q_R σ 95 1 = some 97 := hs.2 (95, 1, 97) (List.mem_of_getElem? (i := 112) rfl)
theorem fz_95_2 {σ : q_S} (hs : q_Sh σ) : q_R σ 95 2 = some 98 := hs.2 (95, 2, 98) (List.mem_of_getElem? (i := 113) rfl)
theorem fz_99_0 {σ : q_S} (hs : q_Sh σ) : q_R σ 99 0 = some 100 := hs.2 (99, 0, 100) (List.mem_of_getElem? (i := 114) rfl)
theorem fz_99_1 {σ : q_S} (hs : q_Sh σ) : q_R σ 99 1 = some 101 := hs.2 (99, 1, 101) (List.mem_of_getElem? (i := 115) rfl)
theorem fz_99_2 {σ : q_S} (hs : q_Sh σ) : q_R σ 99 2 = some 102 := hs.2 (99, 2, 102) (List.mem_of_getElem? (i := 116) rfl)
theorem fz_103_0 {σ : q_S} (hs : q_Sh σ) : q_R σ 103 0 = some 104 := hs.2 (103, 0, 104) (List.mem_of_getElem? (i := 117) rfl)
theorem fz_103_1 {σ : q_S} (hs : q_Sh σ) : q_R σ 103 1 = some 105 := hs.2 (103, 1, 105) (List.mem_of_getElem? (i := 118) rfl)
theorem fz_103_2 {σ : q_S} (hs : q_Sh σ) : q_R σ 103 2 = some 106 := hs.2 (103, 2, 106) (List.mem_of_getElem? (i := 119) rfl)
theorem fz_107_0 {σ : q_S} (hs : q_Sh σ) : q_R σ 107 0 = some 108 := hs.2 (107, 0, 108) (List.mem_of_getElem? (i := 120) rfl)
theorem fz_107_1 {σ : q_S} (hs : q_Sh σ) : q_R σ 107 1 = some 109 := hs.2 (107, 1, 109) (List.mem_of_getElem? (i := 121) rfl)
theorem fz_107_2 {σ : q_S} (hs : q_Sh σ) : q_R σ 107 2 = some 110 := hs.2 (107, 2, 110) (List.mem_of_getElem? (i := 122) rfl)
theorem fz_111_0 {σ : q_S} (hs : q_Sh σ) : q_R σ 111 0 = some 112 := hs.2 (111, 0, 112) (List.mem_of_getElem? (i := 123) rfl)
theorem fz_111_1 {σ : q_S} (hs : q_Sh σ) : q_R σ 111 1 = some 113 := hs.2 (111, 1, 113) (List.mem_of_getElem? (i := 124) rfl)
theorem fz_111_2 {σ : q_S} (hs : q_Sh σ) : q_R σ 111 2 = some 114 := hs.2 (111, 2, 114) (List.mem_of_getElem? (i := 125) rfl)
theorem fz_115_0 {σ : q_S} (hs : q_Sh σ) : q_R σ 115 0 = some 116 := hs.2 (115, 0, 116) (List.mem_of_getElem? (i := 126) rfl)
theorem fz_115_1 {σ : q_S} (hs : q_Sh σ) : q_R σ 115 1 = some 117 := hs.2 (115, 1, 117) (List.mem_of_getElem? (i := 127) rfl)
theorem fz_115_2 {σ : q_S} (hs : q_Sh σ) : q_R σ 115 2 = some 118 := hs.2 (115, 2, 118) (List.mem_of_getElem? (i := 128) rfl)
theorem fz_119_0 {σ : q_S} (hs : q_Sh σ) : q_R σ 119 0 = some 120 := hs.2 (119, 0, 120) (List.mem_of_getElem? (i := 129) rfl)
theorem fz_119_1 {σ : q_S} (hs : q_Sh σ) : q_R σ 119 1 = some 121 := hs.2 (119, 1, 121) (List.mem_of_getElem? (i := 130) rfl)
theorem fz_119_2 {σ : q_S} (hs : q_Sh σ) : q_R σ 119 2 = some 122 := hs.2 (119, 2, 122) (List.mem_of_getElem? (i := 131) rfl)
theorem fz_123_0 {σ : q_S} (hs : q_Sh σ) : q_R σ 123 0 = some 124 := hs.2 (123, 0, 124) (List.mem_of_getElem? (i := 132) rfl)
theorem fz_123_1 {σ : q_S} (hs : q_Sh σ) : q_R σ 123 1 = some 125 := hs.2 (123, 1, 125) (List.mem_of_getElem? (i := 133) rfl)
theorem fz_123_2 {σ : q_S} (hs : q_Sh σ) : q_R σ 123 2 = some 126 := hs.2 (123, 2, 126) (List.mem_of_getElem? (i := 134) rfl)
theorem fz_127_0 {σ : q_S} (hs : q_Sh σ) : q_R σ 127 0 = some 128 := hs.2 (127, 0, 128) (List.mem_of_getElem? (i := 135) rfl)
theorem fz_127_1 {σ : q_S} (hs : q_Sh σ) : q_R σ 127 1 = some 129 := hs.2 (127, 1, 129) (List.mem_of_getElem? (i := 136) rfl)
theorem fz_127_2 {σ : q_S} (hs : q_Sh σ) : q_R σ 127 2 = some 130 := hs.2 (127, 2, 130) (List.mem_of_getElem? (i := 137) rfl)
theorem fz_131_0 {σ : q_S} (hs : q_Sh σ) : q_R σ 131 0 = some 132 := hs.2 (131, 0, 132) (List.mem_of_getElem? (i := 138) rfl)
theorem fz_131_1 {σ : q_S} (hs : q_Sh σ) : q_R σ 131 1 = some 133 := hs.2 (131, 1, 133) (List.mem_of_getElem? (i := 139) rfl)
theorem fz_131_2 {σ : q_S} (hs : q_Sh σ) : q_R σ 131 2 = some 134 := hs.2 (131, 2, 134) (List.mem_of_getElem? (i := 140) rfl)
theorem fz_135_0 {σ : q_S} (hs : q_Sh σ) : q_R σ 135 0 = some 136 := hs.2 (135, 0, 136) (List.mem_of_getElem? (i := 141) rfl)
theorem fz_135_1 {σ : q_S} (hs : q_Sh σ) : q_R σ 135 1 = some 137 := hs.2 (135, 1, 137) (List.mem_of_getElem? (i := 142) rfl)
theorem fz_135_2 {σ : q_S} (hs : q_Sh σ) : q_R σ 135 2 = some 138 := hs.2 (135, 2, 138) (List.mem_of_getElem? (i := 143) rfl)
theorem fz_139_0 {σ : q_S} (hs : q_Sh σ) : q_R σ 139 0 = some 140 := hs.2 (139, 0, 140) (List.mem_of_getElem? (i := 144) rfl)
theorem fz_139_1 {σ : q_S} (hs : q_Sh σ) : q_R σ 139 1 = some 141 := hs.2 (139, 1, 141) (List.mem_of_getElem? (i := 145) rfl)
theorem fz_139_2 {σ : q_S} (hs : q_Sh σ) : q_R σ 139 2 = some 142 := hs.2 (139, 2, 142) (List.mem_of_getElem? (i := 146) rfl)
theorem fz_144_0 {σ : q_S} (hs : q_Sh σ) : q_R σ 144 0 = some 145 := hs.2 (144, 0, 145) (List.mem_of_getElem? (i := 147) rfl)
theorem fz_144_1 {σ : q_S} (hs : q_Sh σ) : q_R σ 144 1 = some 146 := hs.2 (144, 1, 146) (List.mem_of_getElem? (i := 148) rfl)
theorem fz_144_2 {σ : q_S} (hs : q_Sh σ) : q_R σ 144 2 = some 147 := hs.2 (144, 2, 147) (List.mem_of_getElem? (i := 149) rfl)
theorem fz_149_0 {σ : q_S} (hs : q_Sh σ) : q_R σ 149 0 = some 150 := hs.2 (149, 0, 150) (List.mem_of_getElem? (i := 150) rfl)
theorem fz_149_1 {σ : q_S} (hs : q_Sh σ) : q_R σ 149 1 = some 151 := hs.2 (149, 1, 151) (List.mem_of_getElem? (i := 151) rfl)
theorem fz_149_2 {σ : q_S} (hs : q_Sh σ) : q_R σ 149 2 = some 152 := hs.2 (149, 2, 152) (List.mem_of_getElem? (i := 152) rfl)
theorem fz_154_0 {σ : q_S} (hs : q_Sh σ) : q_R σ 154 0 = some 155 := hs.2 (154, 0, 155) (List.mem_of_getElem? (i := 153) rfl)
theorem fz_154_1 {σ : q_S} (hs : q_Sh σ) : q_R σ 154 1 = some 156 := hs.2 (154, 1, 156) (List.mem_of_getElem? (i := 154) rfl)
theorem fz_154_2 {σ : q_S} (hs : q_Sh σ) : q_R σ 154 2 = some 157 := hs.2 (154, 2, 157) (List.mem_of_getElem? (i := 155) rfl)
theorem fz_159_1 {σ : q_S} (hs : q_Sh σ) : q_R σ 159 1 = some 160 := hs.2 (159, 1, 160) (List.mem_of_getElem? (i := 156) rfl)
theorem fz_159_4 {σ : q_S} (hs : q_Sh σ) : q_R σ 159 4 = some 161 := hs.2 (159, 4, 161) (List.mem_of_getElem? (i := 157) rfl)
theorem fz_159_5 {σ : q_S} (hs : q_Sh σ) : q_R σ 159 5 = some 162 := hs.2 (159, 5, 162) (List.mem_of_getElem? (i := 158) rfl)
theorem fz_159_6 {σ : q_S} (hs : q_Sh σ) : q_R σ 159 6 = some 163 := hs.2 (159, 6, 163) (List.mem_of_getElem? (i := 159) rfl)
theorem fz_159_9 {σ : q_S} (hs : q_Sh σ) : q_R σ 159 9 = some 164 := hs.2 (159, 9, 164) (List.mem_of_getElem? (i := 160) rfl)
theorem fz_159_10 {σ : q_S} (hs : q_Sh σ) : q_R σ 159 10 = some 165 := hs.2 (159, 10, 165) (List.mem_of_getElem? (i := 161) rfl)
theorem fz_159_11 {σ : q_S} (hs : q_Sh σ) : q_R σ 159 11 = some 166 := hs.2 (159, 11, 166) (List.mem_of_getElem? (i := 162) rfl)
theorem fz_159_12 {σ : q_S} (hs : q_Sh σ) : q_R σ 159 12 = some 167 := hs.2 (159, 12, 167) (List.mem_of_getElem? (i := 163) rfl)
theorem fz_159_14 {σ : q_S} (hs : q_Sh σ) : q_R σ 159 14 = some 168 := hs.2 (159, 14, 168) (List.mem_of_getElem? (i := 164) rfl)
theorem fz_159_15 {σ : q_S} (hs : q_Sh σ) : q_R σ 159 15 = some 169 := hs.2 (159, 15, 169) (List.mem_of_getElem? (i := 165) rfl)
theorem fz_159_16 {σ : q_S} (hs : q_Sh σ) : q_R σ 159 16 = some 170 := hs.2 (159, 16, 170) (List.mem_of_getElem? (i := 166) rfl)
theorem fz_159_17 {σ : q_S} (hs : q_Sh σ) : q_R σ 159 17 = some 171 := hs.2 (159, 17, 171) (List.mem_of_getElem? (i := 167) rfl)
theorem fz_159_21 {σ : q_S} (hs : q_Sh σ) : q_R σ 159 21 = some 172 := hs.2 (159, 21, 172) (List.mem_of_getElem? (i := 168) rfl)
theorem fz_159_22 {σ : q_S} (hs : q_Sh σ) : q_R σ 159 22 = some 173 := hs.2 (159, 22, 173) (List.mem_of_getElem? (i := 169) rfl)
theorem fz_159_23 {σ : q_S} (hs : q_Sh σ) : q_R σ 159 23 = some 174 := hs.2 (159, 23, 174) (List.mem_of_getElem? (i := 170) rfl)
theorem fz_159_24 {σ : q_S} (hs : q_Sh σ) : q_R σ 159 24 = some 175 := hs.2 (159, 24, 175) (List.mem_of_getElem? (i := 171) rfl)
theorem fz_159_26 {σ : q_S} (hs : q_Sh σ) : q_R σ 159 26 = some 176 := hs.2 (159, 26, 176) (List.mem_of_getElem? (i := 172) rfl)
theorem fz_159_27 {σ : q_S} (hs : q_Sh σ) : q_R σ 159 27 = some 177 := hs.2 (159, 27, 177) (List.mem_of_getElem? (i := 173) rfl)
theorem fz_159_29 {σ : q_S} (hs : q_Sh σ) : q_R σ 159 29 = some 178 := hs.2 (159, 29, 178) (List.mem_of_getElem? (i := 174) rfl)
theorem fz_159_30 {σ : q_S} (hs : q_Sh σ) : q_R σ 159 30 = some 179 := hs.2 (159, 30, 179) (List.mem_of_getElem? (i := 175) rfl)
theorem fz_159_32 {σ : q_S} (hs : q_Sh σ) : q_R σ 159 32 = some 180 := hs.2 (159, 32, 180) (List.mem_of_getElem? (i := 176) rfl)
theorem fz_159_35 {σ : q_S} (hs : q_Sh σ) : q_R σ 159 35 = some 181 := hs.2 (159, 35, 181) (List.mem_of_getElem? (i := 177) rfl)
def q_lTl : List Nat := [14, 143, 148, 153, 158]
def q_isTl (a : Nat) : Prop := a ∈ q_lTl
theorem isTl_14 : q_isTl 14 := (by decide : 14 ∈ q_lTl)
theorem isTl_143 : q_isTl 143 := (by decide : 143 ∈ q_lTl)
theorem isTl_148 : q_isTl 148 := (by decide : 148 ∈ q_lTl)
theorem isTl_153 : q_isTl 153 := (by decide : 153 ∈ q_lTl)
theorem isTl_158 : q_isTl 158 := (by decide : 158 ∈ q_lTl)
theorem kd_Tl_0 {a : Nat} (h : q_isTl a) : q_kd a = (0, 5) := (by decide +kernel : ∀ a ∈ q_lTl, q_kd a = (0, 5)) a h
def q_lLi : List Nat := [15, 19, 75, 79, 83, 87, 91, 95, 99, 103, 107, 111, 115, 119, 123, 127, 131, 135, 139, 144, 149, 154]
def q_isLi (a : Nat) : Prop := a ∈ q_lLi
theorem isLi_15 : q_isLi 15 := (by decide : 15 ∈ q_lLi)
theorem isLi_19 : q_isLi 19 := (by decide : 19 ∈ q_lLi)
theorem isLi_75 : q_isLi 75 := (by decide : 75 ∈ q_lLi)
theorem isLi_79 : q_isLi 79 := (by decide : 79 ∈ q_lLi)
theorem isLi_83 : q_isLi 83 := (by decide : 83 ∈ q_lLi)
theorem isLi_87 : q_isLi 87 := (by decide : 87 ∈ q_lLi)
theorem isLi_91 : q_isLi 91 := (by decide : 91 ∈ q_lLi)
theorem isLi_95 : q_isLi 95 := (by decide : 95 ∈ q_lLi)
theorem isLi_99 : q_isLi 99 := (by decide : 99 ∈ q_lLi)
theorem isLi_103 : q_isLi 103 := (by decide : 103 ∈ q_lLi)
theorem isLi_107 : q_isLi 107 := (by decide : 107 ∈ q_lLi)
theorem isLi_111 : q_isLi 111 := (by decide : 111 ∈ q_lLi)
theorem isLi_115 : q_isLi 115 := (by decide : 115 ∈ q_lLi)
theorem isLi_119 : q_isLi 119 := (by decide : 119 ∈ q_lLi)
theorem isLi_123 : q_isLi 123 := (by decide : 123 ∈ q_lLi)
theorem isLi_127 : q_isLi 127 := (by decide : 127 ∈ q_lLi)
theorem isLi_131 : q_isLi 131 := (by decide : 131 ∈ q_lLi)
theorem isLi_135 : q_isLi 135 := (by decide : 135 ∈ q_lLi)
theorem isLi_139 : q_isLi 139 := (by decide : 139 ∈ q_lLi)
theorem isLi_144 : q_isLi 144 := (by decide : 144 ∈ q_lLi)
theorem isLi_149 : q_isLi 149 := (by decide : 149 ∈ q_lLi)
theorem isLi_154 : q_isLi 154 := (by decide : 154 ∈ q_lLi)
theorem kd_Li_0 {a : Nat} (h : q_isLi a) : q_kd a = (0, 3) := (by decide +kernel : ∀ a ∈ q_lLi, q_kd a = (0, 3)) a h
theorem kd_Li_1 {a : Nat} (h : q_isLi a) : q_kd (a + 1) = (1, 6) := (by decide +kernel : ∀ a ∈ q_lLi, q_kd (a + 1) = (1, 6)) a h
theorem kd_Li_2 {a : Nat} (h : q_isLi a) : q_kd (a + 2) = (1, 6) := (by decide +kernel : ∀ a ∈ q_lLi, q_kd (a + 2) = (1, 6)) a h
theorem kd_Li_3 {a : Nat} (h : q_isLi a) : q_kd (a + 3) = (1, 36) := (by decide +kernel : ∀ a ∈ q_lLi, q_kd (a + 3) = (1, 36)) a h
theorem fz_Li_0 {σ : q_S} {a : Nat} (hs : q_Sh σ) (h : q_isLi a) : q_R σ a 0 = some (a + 1) := hs.2 (a, 0, a + 1) ((by decide +kernel : ∀ a ∈ q_lLi, (a, 0, a + 1) ∈ q_frz) a h)
theorem fz_Li_1 {σ : q_S} {a : Nat} (hs : q_Sh σ) (h : q_isLi a) : q_R σ a 1 = some (a + 2) := hs.2 (a, 1, a + 2) ((by decide +kernel : ∀ a ∈ q_lLi, (a, 1, a + 2) ∈ q_frz) a h)
theorem fz_Li_2 {σ : q_S} {a : Nat} (hs : q_Sh σ) (h : q_isLi a) : q_R σ a 2 = some (a + 3) := hs.2 (a, 2, a + 3) ((by decide +kernel : ∀ a ∈ q_lLi, (a, 2, a + 3) ∈ q_frz) a h)
def q_lTw : List Nat := [27, 46]
def q_isTw (a : Nat) : Prop := a ∈ q_lTw
theorem isTw_27 : q_isTw 27 := (by decide : 27 ∈ q_lTw)
theorem isTw_46 : q_isTw 46 := (by decide : 46 ∈ q_lTw)
theorem kd_Tw_0 {a : Nat} (h : q_isTw a) : q_kd a = (0, 8) := (by decide +kernel : ∀ a ∈ q_lTw, q_kd a = (0, 8)) a h
theorem kd_Tw_1 {a : Nat} (h : q_isTw a) : q_kd (a + 1) = (2, 6) := (by decide +kernel : ∀ a ∈ q_lTw, q_kd (a + 1) = (2, 6)) a h
theorem kd_Tw_2 {a : Nat} (h : q_isTw a) : q_kd (a + 2) = (2, 6) := (by decide +kernel : ∀ a ∈ q_lTw, q_kd (a + 2) = (2, 6)) a h
theorem kd_Tw_3 {a : Nat} (h : q_isTw a) : q_kd (a + 3) = (1, 6) := (by decide +kernel : ∀ a ∈ q_lTw, q_kd (a + 3) = (1, 6)) a h
theorem kd_Tw_4 {a : Nat} (h : q_isTw a) : q_kd (a + 4) = (1, 6) := (by decide +kernel : ∀ a ∈ q_lTw, q_kd (a + 4) = (1, 6)) a h
theorem kd_Tw_5 {a : Nat} (h : q_isTw a) : q_kd (a + 5) = (1, 6) := (by decide +kernel : ∀ a ∈ q_lTw, q_kd (a + 5) = (1, 6)) a h
theorem kd_Tw_6 {a : Nat} (h : q_isTw a) : q_kd (a + 6) = (1, 6) := (by decide +kernel : ∀ a ∈ q_lTw, q_kd (a + 6) = (1, 6)) a h
theorem kd_Tw_7 {a : Nat} (h : q_isTw a) : q_kd (a + 7) = (1, 36) := (by decide +kernel : ∀ a ∈ q_lTw, q_kd (a + 7) = (1, 36)) a h
theorem kd_Tw_8 {a : Nat} (h : q_isTw a) : q_kd (a + 8) = (1, 36) := (by decide +kernel : ∀ a ∈ q_lTw, q_kd (a + 8) = (1, 36)) a h
theorem kd_Tw_9 {a : Nat} (h : q_isTw a) : q_kd (a + 9) = (1, 36) := (by decide +kernel : ∀ a ∈ q_lTw, q_kd (a + 9) = (1, 36)) a h
theorem kd_Tw_10 {a : Nat} (h : q_isTw a) : q_kd (a + 10) = (1, 36) := (by decide +kernel : ∀ a ∈ q_lTw, q_kd (a + 10) = (1, 36)) a h
theorem kd_Tw_11 {a : Nat} (h : q_isTw a) : q_kd (a + 11) = (2, 8) := (by decide +kernel : ∀ a ∈ q_lTw, q_kd (a + 11) = (2, 8)) a h
theorem kd_Tw_12 {a : Nat} (h : q_isTw a) : q_kd (a + 12) = (1, 360) := (by decide +kernel : ∀ a ∈ q_lTw, q_kd (a + 12) = (1, 360)) a h
theorem kd_Tw_13 {a : Nat} (h : q_isTw a) : q_kd (a + 13) = (0, 2) := (by decide +kernel : ∀ a ∈ q_lTw, q_kd (a + 13) = (0, 2)) a h
theorem kd_Tw_14 {a : Nat} (h : q_isTw a) : q_kd (a + 14) = (1, 1024) := (by decide +kernel : ∀ a ∈ q_lTw, q_kd (a + 14) = (1, 1024)) a h
theorem kd_Tw_15 {a : Nat} (h : q_isTw a) : q_kd (a + 15) = (1, 3) := (by decide +kernel : ∀ a ∈ q_lTw, q_kd (a + 15) = (1, 3)) a h
theorem kd_Tw_16 {a : Nat} (h : q_isTw a) : q_kd (a + 16) = (1, 3) := (by decide +kernel : ∀ a ∈ q_lTw, q_kd (a + 16) = (1, 3)) a h
theorem kd_Tw_17 {a : Nat} (h : q_isTw a) : q_kd (a + 17) = (3, 3) := (by decide +kernel : ∀ a ∈ q_lTw, q_kd (a + 17) = (3, 3)) a h
theorem kd_Tw_18 {a : Nat} (h : q_isTw a) : q_kd (a + 18) = (1, 32) := (by decide +kernel : ∀ a ∈ q_lTw, q_kd (a + 18) = (1, 32)) a h
theorem fz_Tw_0 {σ : q_S} {a : Nat} (hs : q_Sh σ) (h : q_isTw a) : q_R σ a 0 = some (a + 1) := hs.2 (a, 0, a + 1) ((by decide +kernel : ∀ a ∈ q_lTw, (a, 0, a + 1) ∈ q_frz) a h)
theorem fz_Tw_1 {σ : q_S} {a : Nat} (hs : q_Sh σ) (h : q_isTw a) : q_R σ a 1 = some (a + 2) := hs.2 (a, 1, a + 2) ((by decide +kernel : ∀ a ∈ q_lTw, (a, 1, a + 2) ∈ q_frz) a h)
theorem fz_Tw_2 {σ : q_S} {a : Nat} (hs : q_Sh σ) (h : q_isTw a) : q_R σ a 2 = some (a + 3) := hs.2 (a, 2, a + 3) ((by decide +kernel : ∀ a ∈ q_lTw, (a, 2, a + 3) ∈ q_frz) a h)
theorem fz_Tw_3 {σ : q_S} {a : Nat} (hs : q_Sh σ) (h : q_isTw a) : q_R σ a 3 = some (a + 4) := hs.2 (a, 3, a + 4) ((by decide +kernel : ∀ a ∈ q_lTw, (a, 3, a + 4) ∈ q_frz) a h)
theorem fz_Tw_4 {σ : q_S} {a : Nat} (hs : q_Sh σ) (h : q_isTw a) : q_R σ a 4 = some (a + 5) := hs.2 (a, 4, a + 5) ((by decide +kernel : ∀ a ∈ q_lTw, (a, 4, a + 5) ∈ q_frz) a h)
theorem fz_Tw_5 {σ : q_S} {a : Nat} (hs : q_Sh σ) (h : q_isTw a) : q_R σ a 5 = some (a + 6) := hs.2 (a, 5, a + 6) ((by decide +kernel : ∀ a ∈ q_lTw, (a, 5, a + 6) ∈ q_frz) a h)
theorem fz_Tw_6 {σ : q_S} {a : Nat} (hs : q_Sh σ) (h : q_isTw a) : q_R σ a 6 = some (a + 7) := hs.2 (a, 6, a + 7) ((by decide +kernel : ∀ a ∈ q_lTw, (a, 6, a + 7) ∈ q_frz) a h)
theorem fz_Tw_7 {σ : q_S} {a : Nat} (hs : q_Sh σ) (h : q_isTw a) : q_R σ a 7 = some (a + 8) := hs.2 (a, 7, a + 8) ((by decide +kernel : ∀ a ∈ q_lTw, (a, 7, a + 8) ∈ q_frz) a h)
theorem fz_Tw_8 {σ : q_S} {a : Nat} (hs : q_Sh σ) (h : q_isTw a) : q_R σ a 8 = some (a + 9) := hs.2 (a, 8, a + 9) ((by decide +kernel : ∀ a ∈ q_lTw, (a, 8, a + 9) ∈ q_frz) a h)
theorem fz_Tw_9 {σ : q_S} {a : Nat} (hs : q_Sh σ) (h : q_isTw a) : q_R σ a 9 = some (a + 10) := hs.2 (a, 9, a + 10) ((by decide +kernel : ∀ a ∈ q_lTw, (a, 9, a + 10) ∈ q_frz) a h)
theorem fz_Tw_10 {σ : q_S} {a : Nat} (hs : q_Sh σ) (h : q_isTw a) : q_R σ a 10 = some (a + 11) := hs.2 (a, 10, a + 11) ((by decide +kernel : ∀ a ∈ q_lTw, (a, 10, a + 11) ∈ q_frz) a h)
theorem fz_Tw_11 {σ : q_S} {a : Nat} (hs : q_Sh σ) (h : q_isTw a) : q_R σ a 11 = some (a + 12) := hs.2 (a, 11, a + 12) ((by decide +kernel : ∀ a ∈ q_lTw, (a, 11, a + 12) ∈ q_frz) a h)
theorem fz_Tw_12 {σ : q_S} {a : Nat} (hs : q_Sh σ) (h : q_isTw a) : q_R σ a 12 = some (a + 13) := hs.2 (a, 12, a + 13) ((by decide +kernel : ∀ a ∈ q_lTw, (a, 12, a + 13) ∈ q_frz) a h)
def q_lLa : List Nat := [40, 59]
def q_isLa (a : Nat) : Prop := a ∈ q_lLa
theorem isLa_40 : q_isLa 40 := (by decide : 40 ∈ q_lLa)
theorem isLa_59 : q_isLa 59 := (by decide : 59 ∈ q_lLa)
theorem kd_La_0 {a : Nat} (h : q_isLa a) : q_kd a = (0, 2) := (by decide +kernel : ∀ a ∈ q_lLa, q_kd a = (0, 2)) a h
theorem kd_La_1 {a : Nat} (h : q_isLa a) : q_kd (a + 1) = (1, 1024) := (by decide +kernel : ∀ a ∈ q_lLa, q_kd (a + 1) = (1, 1024)) a h
theorem kd_La_2 {a : Nat} (h : q_isLa a) : q_kd (a + 2) = (1, 3) := (by decide +kernel : ∀ a ∈ q_lLa, q_kd (a + 2) = (1, 3)) a h
theorem kd_La_3 {a : Nat} (h : q_isLa a) : q_kd (a + 3) = (1, 3) := (by decide +kernel : ∀ a ∈ q_lLa, q_kd (a + 3) = (1, 3)) a h
theorem kd_La_4 {a : Nat} (h : q_isLa a) : q_kd (a + 4) = (3, 3) := (by decide +kernel : ∀ a ∈ q_lLa, q_kd (a + 4) = (3, 3)) a h
theorem kd_La_5 {a : Nat} (h : q_isLa a) : q_kd (a + 5) = (1, 32) := (by decide +kernel : ∀ a ∈ q_lLa, q_kd (a + 5) = (1, 32)) a h
theorem fz_La_0 {σ : q_S} {a : Nat} (hs : q_Sh σ) (h : q_isLa a) : q_R σ a 0 = some (a + 1) := hs.2 (a, 0, a + 1) ((by decide +kernel : ∀ a ∈ q_lLa, (a, 0, a + 1) ∈ q_frz) a h)
theorem fz_La_1 {σ : q_S} {a : Nat} (hs : q_Sh σ) (h : q_isLa a) : q_R σ a 1 = some (a + 2) := hs.2 (a, 1, a + 2) ((by decide +kernel : ∀ a ∈ q_lLa, (a, 1, a + 2) ∈ q_frz) a h)
theorem fz_La_2 {σ : q_S} {a : Nat} (hs : q_Sh σ) (h : q_isLa a) : q_R σ a 2 = some (a + 3) := hs.2 (a, 2, a + 3) ((by decide +kernel : ∀ a ∈ q_lLa, (a, 2, a + 3) ∈ q_frz) a h)
theorem fz_La_3 {σ : q_S} {a : Nat} (hs : q_Sh σ) (h : q_isLa a) : q_R σ a 3 = some (a + 4) := hs.2 (a, 3, a + 4) ((by decide +kernel : ∀ a ∈ q_lLa, (a, 3, a + 4) ∈ q_frz) a h)
theorem fz_La_4 {σ : q_S} {a : Nat} (hs : q_Sh σ) (h : q_isLa a) : q_R σ a 4 = some (a + 5) := hs.2 (a, 4, a + 5) ((by decide +kernel : ∀ a ∈ q_lLa, (a, 4, a + 5) ∈ q_frz) a h)
def q_lDy : List Nat := [65, 70]
def q_isDy (a : Nat) : Prop := a ∈ q_lDy
theorem isDy_65 : q_isDy 65 := (by decide : 65 ∈ q_lDy)
theorem isDy_70 : q_isDy 70 := (by decide : 70 ∈ q_lDy)
theorem kd_Dy_0 {a : Nat} (h : q_isDy a) : q_kd a = (0, 0) := (by decide +kernel : ∀ a ∈ q_lDy, q_kd a = (0, 0)) a h
theorem kd_Dy_1 {a : Nat} (h : q_isDy a) : q_kd (a + 1) = (1, 24) := (by decide +kernel : ∀ a ∈ q_lDy, q_kd (a + 1) = (1, 24)) a h
theorem kd_Dy_2 {a : Nat} (h : q_isDy a) : q_kd (a + 2) = (1, 24) := (by decide +kernel : ∀ a ∈ q_lDy, q_kd (a + 2) = (1, 24)) a h
theorem kd_Dy_3 {a : Nat} (h : q_isDy a) : q_kd (a + 3) = (1, 24) := (by decide +kernel : ∀ a ∈ q_lDy, q_kd (a + 3) = (1, 24)) a h
theorem kd_Dy_4 {a : Nat} (h : q_isDy a) : q_kd (a + 4) = (1, 24) := (by decide +kernel : ∀ a ∈ q_lDy, q_kd (a + 4) = (1, 24)) a h
theorem fz_Dy_0 {σ : q_S} {a : Nat} (hs : q_Sh σ) (h : q_isDy a) : q_R σ a 0 = some (a + 1) := hs.2 (a, 0, a + 1) ((by decide +kernel : ∀ a ∈ q_lDy, (a, 0, a + 1) ∈ q_frz) a h)
theorem fz_Dy_1 {σ : q_S} {a : Nat} (hs : q_Sh σ) (h : q_isDy a) : q_R σ a 1 = some (a + 2) := hs.2 (a, 1, a + 2) ((by decide +kernel : ∀ a ∈ q_lDy, (a, 1, a + 2) ∈ q_frz) a h)
theorem fz_Dy_2 {σ : q_S} {a : Nat} (hs : q_Sh σ) (h : q_isDy a) : q_R σ a 2 = some (a + 3) := hs.2 (a, 2, a + 3) ((by decide +kernel : ∀ a ∈ q_lDy, (a, 2, a + 3) ∈ q_frz) a h)
theorem fz_Dy_3 {σ : q_S} {a : Nat} (hs : q_Sh σ) (h : q_isDy a) : q_R σ a 3 = some (a + 4) := hs.2 (a, 3, a + 4) ((by decide +kernel : ∀ a ∈ q_lDy, (a, 3, a + 4) ∈ q_frz) a h)
theorem isLa_of_Tw {a : Nat} (h : q_isTw a) : q_isLa (a + 13) := (by decide +kernel : ∀ a ∈ q_lTw, a + 13 ∈ q_lLa) a h
theorem fz_at_23 {σ : q_S} {k : Nat} (hs : q_Sh σ) (hk : k < 16) : q_R σ 23 k = some (75 + 4 * k) := hs.2 (23, k, 75 + 4 * k) ((by decide +kernel : ∀ k, k < 16 → (23, k, 75 + 4 * k) ∈ q_frz) k hk)
theorem is_at_23 {k : Nat} (hk : k < 16) : q_isLi (75 + 4 * k) := (by decide +kernel : ∀ k, k < 16 → 75 + 4 * k ∈ q_lLi) k hk
theorem fz_at_24 {σ : q_S} {k : Nat} (hs : q_Sh σ) (hk : k < 4) : q_R σ 24 k = some (139 + 5 * k) := hs.2 (24, k, 139 + 5 * k) ((by decide +kernel : ∀ k, k < 4 → (24, k, 139 + 5 * k) ∈ q_frz) k hk)
theorem is_at_24 {k : Nat} (hk : k < 4) : q_isLi (139 + 5 * k) := (by decide +kernel : ∀ k, k < 4 → 139 + 5 * k ∈ q_lLi) k hk
theorem fz_at_25 {σ : q_S} {k : Nat} (hs : q_Sh σ) (hk : k < 4) : q_R σ 25 k = some (143 + 5 * k) := hs.2 (25, k, 143 + 5 * k) ((by decide +kernel : ∀ k, k < 4 → (25, k, 143 + 5 * k) ∈ q_frz) k hk)
theorem is_at_25 {k : Nat} (hk : k < 4) : q_isTl (143 + 5 * k) := (by decide +kernel : ∀ k, k < 4 → 143 + 5 * k ∈ q_lTl) k hk
theorem sh_land {σ : q_S} {v : Option Nat} (hs : q_Sh σ) : q_Sh (q_setR σ 0 12 v) := ⟨hs.1, fun x hx => by rw [q_setR_R, if_neg ((by decide +kernel : ∀ x ∈ q_frz, ¬ (x.1 = 0 ∧ x.2.1 = 12)) x hx)]; exact hs.2 x hx⟩
theorem sh_plan {σ : q_S} {v : Option Nat} (hs : q_Sh σ) : q_Sh (q_setR σ 0 14 v) := ⟨hs.1, fun x hx => by rw [q_setR_R, if_neg ((by decide +kernel : ∀ x ∈ q_frz, ¬ (x.1 = 0 ∧ x.2.1 = 14)) x hx)]; exact hs.2 x hx⟩
theorem sh_spareLand {σ : q_S} {v : Option Nat} (hs : q_Sh σ) : q_Sh (q_setR σ 0 13 v) := ⟨hs.1, fun x hx => by rw [q_setR_R, if_neg ((by decide +kernel : ∀ x ∈ q_frz, ¬ (x.1 = 0 ∧ x.2.1 = 13)) x hx)]; exact hs.2 x hx⟩
theorem sh_sparePlan {σ : q_S} {v : Option Nat} (hs : q_Sh σ) : q_Sh (q_setR σ 0 15 v) := ⟨hs.1, fun x hx => by rw [q_setR_R, if_neg ((by decide +kernel : ∀ x ∈ q_frz, ¬ (x.1 = 0 ∧ x.2.1 = 15)) x hx)]; exact hs.2 x hx⟩
theorem sh_word {σ : q_S} {v : Option Nat} (hs : q_Sh σ) : q_Sh (q_setR σ 3 4 v) := ⟨hs.1, fun x hx => by rw [q_setR_R, if_neg ((by decide +kernel : ∀ x ∈ q_frz, ¬ (x.1 = 3 ∧ x.2.1 = 4)) x hx)]; exact hs.2 x hx⟩

theorem q_sh_I {σ : q_S} {a i : Nat} {v : Int32} (hs : q_Sh σ) : q_Sh (q_setI σ a i v) := hs
theorem q_sh_L {σ : q_S} {a i : Nat} {v : Int64} (hs : q_Sh σ) : q_Sh (q_setL σ a i v) := hs
theorem q_sh_cp {σ : q_S} {a0 i a1 j n : Nat} (hs : q_Sh σ) : q_Sh (q_cpI σ a0 i a1 j n) := hs
-- fewer known locals
def q_sub : List (Option Value) → List (Option Value) → Prop
  | [], _ => True
  | none :: a, _ :: b => q_sub a b
  | some v :: a, x :: b => x = some v ∧ q_sub a b
  | none :: a, [] => q_sub a []
  | some _ :: _, [] => False
theorem q_sub_get : ∀ {a b : List (Option Value)} {i : Nat} {v : Value}, q_sub a b → a[i]? = some (some v) → b[i]? = some (some v)
  | [], _, _, _, _, h => by simp at h
  | none :: a, [], 0, _, _, h => by simp at h
  | none :: a, [], i + 1, v, hs, h => by
    have h1 : a[i]? = some (some v) := by simpa using h
    have := q_sub_get (a := a) (b := []) hs h1
    simp at this
  | none :: a, _ :: b, 0, _, _, h => by simp at h
  | none :: a, _ :: b, i + 1, v, hs, h => by
    have h1 : a[i]? = some (some v) := by simpa using h
    simpa using q_sub_get (a := a) (b := b) hs h1
  | some w :: a, x :: b, 0, v, hs, h => by
    have h1 : w = v := by simpa using h
    subst h1
    simp [hs.1]
  | some w :: a, x :: b, i + 1, v, hs, h => by
    have h1 : a[i]? = some (some v) := by simpa using h
    simpa using q_sub_get (a := a) (b := b) hs.2 h1
theorem q_no_i {v : Int32} : ∀ i, some (Value.int v) ≠ some (.retAddr i) := fun _ h => by cases h
theorem q_no_l {v : Int64} : ∀ i, some (Value.long v) ≠ some (.retAddr i) := fun _ h => by cases h
theorem q_no_v : ∀ i, (none : Option Value) ≠ some (.retAddr i) := fun _ h => by cases h
section QTWO
variable {G : q_G} {X Y : q_M} {d n pc nx idx ci a : Nat} {ls ls' : List (Option Value)} {st As : List Value} {σ : q_S} {Q : Option Value → q_S → Prop}
theorem q_weak {b sb : Nat} (h : q_sub ls' ls) (k : q_At G X d b sb pc ls' st σ Q) : q_At G X d b sb pc ls st σ Q := by
  intro p e R s m args below meth c H locs cells slots lsr QW hB h1 h2 hz hR hS hl hk
  refine k p e R s m args below meth c H locs cells slots lsr QW hB h1 h2 hz hR hS ⟨hl.1, hl.2.1, fun q hq => hl.2.2 q ?_⟩ hk
  obtain ⟨i, w⟩ := q
  obtain ⟨v, hv, rfl⟩ := q_lv_mem.mp hq
  exact q_lv_mem.mpr ⟨v, q_sub_get h hv, rfl⟩
theorem q_ldcw {b sb : Nat} {v : Int32} (hd : q_D X pc (.ldc_w idx) 3 nx) (hc : Cond.constant (m_y X).cls idx v ∈ q_GT) (k : q_At G X d b sb nx ls (.int v :: st) σ Q) : q_At G X d b sb pc ls st σ Q := by
  intro p e R s m args below meth c H locs cells slots lsr QW hB h1 h2 hz hR hS hl hk
  obtain ⟨hd, rfl⟩ := hd
  exact lv_ldcw hB.1 hB.2.1 hB.2.2.2.1 (hB.2.2.2.2.1 _ hc) hd (k p e R s m args below meth c H locs cells slots lsr QW hB h1 h2 hz hR hS hl hk)
theorem q2_getI {j : Nat} (hs : q_Sh σ) (hd : q_D X pc (.getfield idx) 3 nx) (hf : q_F (m_y X).cls idx ci j 0) (hk : q_kd a = (0, ci)) (k : q_At G X d 0 0 nx ls (.int (q_I σ a j) :: st) σ Q) : q_At G X d 0 0 pc ls (.ref a :: st) σ Q := q_getI hd hf hk (q_lt hs hk (by decide)) k
theorem q2_getL {j : Nat} (hs : q_Sh σ) (hd : q_D X pc (.getfield idx) 3 nx) (hf : q_F (m_y X).cls idx ci j 1) (hk : q_kd a = (0, ci)) (k : q_At G X d 0 0 nx ls (.long (q_L σ a j) :: st) σ Q) : q_At G X d 0 0 pc ls (.ref a :: st) σ Q := q_getL hd hf hk (q_lt hs hk (by decide)) k
theorem q2_getR {j v : Nat} (hs : q_Sh σ) (hd : q_D X pc (.getfield idx) 3 nx) (hf : q_F (m_y X).cls idx ci j 2) (hk : q_kd a = (0, ci)) (hv : q_R σ a j = some v) (k : q_At G X d 0 0 nx ls (.ref v :: st) σ Q) : q_At G X d 0 0 pc ls (.ref a :: st) σ Q := q_getR hd hf hk (q_lt hs hk (by decide)) hv k
theorem q2_putI {j : Nat} {ft : FieldType} {v : Int32} (hs : q_Sh σ) (hd : q_D X pc (.putfield idx) 3 nx) (hf : q_FP (m_y X).cls idx ci j 0 ft false) (hk : q_kd a = (0, ci)) (hn : narrow ft (.int v) = .int v) (hfit : fits ft (.int v) = true) (k : q_At G X d 0 0 nx ls st (q_setI σ a j v) Q) : q_At G X d 0 0 pc ls (.int v :: .ref a :: st) σ Q := q_putI hd hf (fun h => by cases h) hk (q_lt hs hk (by decide)) hn hfit k
theorem q2_putL {j : Nat} {ft : FieldType} {v : Int64} (hs : q_Sh σ) (hd : q_D X pc (.putfield idx) 3 nx) (hf : q_FP (m_y X).cls idx ci j 1 ft false) (hk : q_kd a = (0, ci)) (hn : narrow ft (.long v) = .long v) (hfit : fits ft (.long v) = true) (k : q_At G X d 0 0 nx ls st (q_setL σ a j v) Q) : q_At G X d 0 0 pc ls (.long v :: .ref a :: st) σ Q := q_putL hd hf (fun h => by cases h) hk (q_lt hs hk (by decide)) hn hfit k
theorem q2_putR {j v : Nat} {ft : FieldType} (hs : q_Sh σ) (hd : q_D X pc (.putfield idx) 3 nx) (hf : q_FP (m_y X).cls idx ci j 2 ft false) (hk : q_kd a = (0, ci)) (hn : ∀ q, narrow ft (.ref q) = .ref q) (hfit : ∀ q, fits ft (.ref q) = true) (k : q_At G X d 0 0 nx ls st (q_setR σ a j (some v)) Q) : q_At G X d 0 0 pc ls (.ref v :: .ref a :: st) σ Q := q_putR hd hf (fun h => by cases h) hk (q_lt hs hk (by decide)) hn hfit k
theorem q2_iald {x : Int32} {i : Nat} (hs : q_Sh σ) (hd : q_D X pc .iaload 1 nx) (hk : q_kd a = (1, n)) (hx : x = nI i) (hi : i < n) (hn : n < 2 ^ 31) (k : q_At G X d 0 0 nx ls (.int (q_I σ a i) :: st) σ Q) : q_At G X d 0 0 pc ls (.int x :: .ref a :: st) σ Q := q_iald hd hk (q_lt hs hk (by decide)) hx hi hn k
theorem q2_lald {x : Int32} {i : Nat} (hs : q_Sh σ) (hd : q_D X pc .laload 1 nx) (hk : q_kd a = (2, n)) (hx : x = nI i) (hi : i < n) (hn : n < 2 ^ 31) (k : q_At G X d 0 0 nx ls (.long (q_L σ a i) :: st) σ Q) : q_At G X d 0 0 pc ls (.int x :: .ref a :: st) σ Q := q_lald hd hk (q_lt hs hk (by decide)) hx hi hn k
theorem q2_zald {x : Int32} {i : Nat} (hs : q_Sh σ) (hd : q_D X pc .baload 1 nx) (hk : q_kd a = (3, n)) (hx : x = nI i) (hi : i < n) (hn : n < 2 ^ 31) (k : q_At G X d 0 0 nx ls (.int (q_I σ a i) :: st) σ Q) : q_At G X d 0 0 pc ls (.int x :: .ref a :: st) σ Q := q_zald hd hk (q_lt hs hk (by decide)) hx hi hn k
theorem q2_cald {x : Int32} {i : Nat} (hs : q_Sh σ) (hd : q_D X pc .caload 1 nx) (hk : q_kd a = (4, n)) (hx : x = nI i) (hi : i < n) (hn : n < 2 ^ 31) (k : q_At G X d 0 0 nx ls (.int (q_I σ a i) :: st) σ Q) : q_At G X d 0 0 pc ls (.int x :: .ref a :: st) σ Q := q_cald hd hk (q_lt hs hk (by decide)) hx hi hn k
theorem q2_ald5 {x : Int32} {i v : Nat} (hs : q_Sh σ) (hd : q_D X pc .aaload 1 nx) (hk : q_kd a = (5, n)) (hx : x = nI i) (hi : i < n) (hn : n < 2 ^ 31) (hv : q_R σ a i = some v) (k : q_At G X d 0 0 nx ls (.ref v :: st) σ Q) : q_At G X d 0 0 pc ls (.int x :: .ref a :: st) σ Q := q_ald5 hd hk (q_lt hs hk (by decide)) hx hi hn hv k
theorem q2_ald6 {x : Int32} {i v : Nat} (hs : q_Sh σ) (hd : q_D X pc .aaload 1 nx) (hk : q_kd a = (6, n)) (hx : x = nI i) (hi : i < n) (hn : n < 2 ^ 31) (hv : q_R σ a i = some v) (k : q_At G X d 0 0 nx ls (.ref v :: st) σ Q) : q_At G X d 0 0 pc ls (.int x :: .ref a :: st) σ Q := q_ald6 hd hk (q_lt hs hk (by decide)) hx hi hn hv k
theorem q2_iast {x v : Int32} {i : Nat} (hs : q_Sh σ) (hd : q_D X pc .iastore 1 nx) (hk : q_kd a = (1, n)) (hx : x = nI i) (hi : i < n) (hn : n < 2 ^ 31) (k : q_At G X d 0 0 nx ls st (q_setI σ a i v) Q) : q_At G X d 0 0 pc ls (.int v :: .int x :: .ref a :: st) σ Q := q_iast hd hk (q_lt hs hk (by decide)) hx hi hn k
theorem q2_last {x : Int32} {v : Int64} {i : Nat} (hs : q_Sh σ) (hd : q_D X pc .lastore 1 nx) (hk : q_kd a = (2, n)) (hx : x = nI i) (hi : i < n) (hn : n < 2 ^ 31) (k : q_At G X d 0 0 nx ls st (q_setL σ a i v) Q) : q_At G X d 0 0 pc ls (.long v :: .int x :: .ref a :: st) σ Q := q_last hd hk (q_lt hs hk (by decide)) hx hi hn k
theorem q2_zast {x v : Int32} {i : Nat} (hs : q_Sh σ) (hd : q_D X pc .bastore 1 nx) (hk : q_kd a = (3, n)) (hx : x = nI i) (hi : i < n) (hn : n < 2 ^ 31) (k : q_At G X d 0 0 nx ls st (q_setI σ a i (vp_nar .boolean v)) Q) : q_At G X d 0 0 pc ls (.int v :: .int x :: .ref a :: st) σ Q := q_zast hd hk (q_lt hs hk (by decide)) hx hi hn k
theorem q2_cast {x v : Int32} {i : Nat} (hs : q_Sh σ) (hd : q_D X pc .castore 1 nx) (hk : q_kd a = (4, n)) (hx : x = nI i) (hi : i < n) (hn : n < 2 ^ 31) (k : q_At G X d 0 0 nx ls st (q_setI σ a i (vp_nar .char v)) Q) : q_At G X d 0 0 pc ls (.int v :: .int x :: .ref a :: st) σ Q := q_cast hd hk (q_lt hs hk (by decide)) hx hi hn k
theorem q2_alen {t : Nat} (hs : q_Sh σ) (hd : q_D X pc .arraylength 1 nx) (hk0 : q_kd a = (t, n)) (ht : 0 < t) (ht2 : t < 7) (k : q_At G X d 0 0 nx ls (.int (nI n) :: st) σ Q) : q_At G X d 0 0 pc ls (.ref a :: st) σ Q := q_alen hd hk0 ht ht2 (q_lt hs hk0 (by omega)) k
theorem q2_copy {a0 a1 n0 n1 i j n : Nat} {x y z : Int32} (hs : q_Sh σ) (hd : q_D X pc (.invokestatic idx) 3 nx) (hlk : Cond.methodLink (m_y X).cls idx arraycopyName ∈ q_GT) (hst : q_cats st ≤ 8) (hk0 : q_kd a0 = (1, n0)) (hk1 : q_kd a1 = (1, n1)) (hx : x = nI i) (hy : y = nI j) (hzz : z = nI n) (hi : i + n ≤ n0) (hj : j + n ≤ n1) (hn0 : n0 < 2 ^ 31) (hn1 : n1 < 2 ^ 31) (k : q_At G X (d + 1) 0 0 nx ls st (q_cpI σ a0 i a1 j n) Q) : q_At G X (d + 1) 0 0 pc ls (.int z :: .int y :: .ref a1 :: .int x :: .ref a0 :: st) σ Q := q_copy hd hlk hst hk0 hk1 (q_lt hs hk0 (by decide)) (q_lt hs hk1 (by decide)) hx hy hzz hi hj hn0 hn1 k
theorem q_nNT {P : Prop} (hs : q_Sh σ) : q_n σ < q_NT → P := fun h => absurd h (by rw [hs.1]; exact Nat.lt_irrefl _)
theorem q2_ist {j : Nat} {v : Int32} (hd : q_D X pc (.istore j) 2 nx) (hn : j < m_m X) (hl : q_st1 ls j (.int v) = ls') (k : q_At G X d 0 0 nx ls' st σ Q) : q_At G X d 0 0 pc ls (.int v :: st) σ Q := q_istore hd hn (hl ▸ k)
theorem q2_istn {j : Fin 4} {v : Int32} (hd : q_D X pc (.istore_n j) 1 nx) (hn : (j : Nat) < m_m X) (hl : q_st1 ls j (.int v) = ls') (k : q_At G X d 0 0 nx ls' st σ Q) : q_At G X d 0 0 pc ls (.int v :: st) σ Q := q_istore_n hd hn (hl ▸ k)
theorem q2_ast {j : Nat} {v : Nat} (hd : q_D X pc (.astore j) 2 nx) (hn : j < m_m X) (hl : q_st1 ls j (.ref v) = ls') (k : q_At G X d 0 0 nx ls' st σ Q) : q_At G X d 0 0 pc ls (.ref v :: st) σ Q := q_astore hd hn (hl ▸ k)
theorem q2_astn {j : Fin 4} {v : Nat} (hd : q_D X pc (.astore_n j) 1 nx) (hn : (j : Nat) < m_m X) (hl : q_st1 ls j (.ref v) = ls') (k : q_At G X d 0 0 nx ls' st σ Q) : q_At G X d 0 0 pc ls (.ref v :: st) σ Q := q_astore_n hd hn (hl ▸ k)
theorem q2_lst {j : Nat} {v : Int64} (hd : q_D X pc (.lstore j) 2 nx) (hn : j + 1 < m_m X) (hl : q_st2 ls j (.long v) = ls') (k : q_At G X d 0 0 nx ls' st σ Q) : q_At G X d 0 0 pc ls (.long v :: st) σ Q := q_lstore hd hn (hl ▸ k)
theorem q2_lstn {j : Fin 4} {v : Int64} (hd : q_D X pc (.lstore_n j) 1 nx) (hn : (j : Nat) + 1 < m_m X) (hl : q_st2 ls j (.long v) = ls') (k : q_At G X d 0 0 nx ls' st σ Q) : q_At G X d 0 0 pc ls (.long v :: st) σ Q := q_lstore_n hd hn (hl ▸ k)
theorem q2_inc {j : Nat} {m : Int} {x v : Int32} (hd : q_D X pc (.iinc j m) 3 nx) (hi : ls[j]? = some (some (.int x))) (hv : x + Int32.ofInt m = v) (hn : j < m_m X) (hl : q_st1 ls j (.int v) = ls') (k : q_At G X d 0 0 nx ls' st σ Q) : q_At G X d 0 0 pc ls st σ Q := q_iinc hd hi hv hn (hl ▸ k)
def q_ri (P : Int32 → q_S → Prop) : Option Value → q_S → Prop := fun r σ' => q_Sh σ' ∧ ∃ v, r = some (.int v) ∧ P v σ'
def q_rl (P : Int64 → q_S → Prop) : Option Value → q_S → Prop := fun r σ' => q_Sh σ' ∧ ∃ v, r = some (.long v) ∧ P v σ'
def q_rv (P : q_S → Prop) : Option Value → q_S → Prop := fun r σ' => q_Sh σ' ∧ r = none ∧ P σ'

theorem q2_callWi (P : Int32 → q_S → Prop) (hs : q_Sh σ) (hd : q_D X pc (.invokevirtual idx) 3 nx) (hC : q_CW (m_y X).cls idx Y n) (hf : ∀ U H, q_SX G U H → va_O (m_y Y).cls (q_ad G a) (q_A G) U H) (hn : As.length = n) (hst : q_cats st ≤ 8) (h : q_Call G d 0 0 Y (.ref a :: As) σ (q_ri P)) (hq : ∀ v σ1, q_Sh σ1 → P v σ1 → q_At G X (d + 1) 0 0 nx ls (.int v :: st) σ1 Q) : q_At G X (d + 1) 0 0 pc ls (As.reverse ++ .ref a :: st) σ Q := q_callW (b := 0) (sb := 0) (b1 := 0) (sb1 := 0) hd hC hf hn hst h (fun r σ1 hr => by obtain ⟨h1, v, rfl, h2⟩ := hr; exact ⟨q_no_i, q_nNT h1, hq v σ1 h1 h2⟩)
theorem q2_callWl (P : Int64 → q_S → Prop) (hs : q_Sh σ) (hd : q_D X pc (.invokevirtual idx) 3 nx) (hC : q_CW (m_y X).cls idx Y n) (hf : ∀ U H, q_SX G U H → va_O (m_y Y).cls (q_ad G a) (q_A G) U H) (hn : As.length = n) (hst : q_cats st ≤ 8) (h : q_Call G d 0 0 Y (.ref a :: As) σ (q_rl P)) (hq : ∀ v σ1, q_Sh σ1 → P v σ1 → q_At G X (d + 1) 0 0 nx ls (.long v :: st) σ1 Q) : q_At G X (d + 1) 0 0 pc ls (As.reverse ++ .ref a :: st) σ Q := q_callW (b := 0) (sb := 0) (b1 := 0) (sb1 := 0) hd hC hf hn hst h (fun r σ1 hr => by obtain ⟨h1, v, rfl, h2⟩ := hr; exact ⟨q_no_l, q_nNT h1, hq v σ1 h1 h2⟩)
theorem q2_callWv (P : q_S → Prop) (hs : q_Sh σ) (hd : q_D X pc (.invokevirtual idx) 3 nx) (hC : q_CW (m_y X).cls idx Y n) (hf : ∀ U H, q_SX G U H → va_O (m_y Y).cls (q_ad G a) (q_A G) U H) (hn : As.length = n) (hst : q_cats st ≤ 8) (h : q_Call G d 0 0 Y (.ref a :: As) σ (q_rv P)) (hq : ∀ σ1, q_Sh σ1 → P σ1 → q_At G X (d + 1) 0 0 nx ls st σ1 Q) : q_At G X (d + 1) 0 0 pc ls (As.reverse ++ .ref a :: st) σ Q := q_callW (b := 0) (sb := 0) (b1 := 0) (sb1 := 0) hd hC hf hn hst h (fun r σ1 hr => by obtain ⟨h1, rfl, h2⟩ := hr; exact ⟨q_no_v, q_nNT h1, hq σ1 h1 h2⟩)
theorem q2_callVi (P : Int32 → q_S → Prop) (hs : q_Sh σ) (hd : q_D X pc (.invokevirtual idx) 3 nx) (hC : q_CV (m_y X).cls idx Y n ci) (hk0 : q_kd a = (0, ci)) (hn : As.length = n) (hst : q_cats st ≤ 8) (h : q_Call G d 0 0 Y (.ref a :: As) σ (q_ri P)) (hq : ∀ v σ1, q_Sh σ1 → P v σ1 → q_At G X (d + 1) 0 0 nx ls (.int v :: st) σ1 Q) : q_At G X (d + 1) 0 0 pc ls (As.reverse ++ .ref a :: st) σ Q := q_callV (b := 0) (sb := 0) (b1 := 0) (sb1 := 0) hd hC hk0 (q_lt hs hk0 (by decide)) hn hst h (fun r σ1 hr => by obtain ⟨h1, v, rfl, h2⟩ := hr; exact ⟨q_no_i, q_nNT h1, hq v σ1 h1 h2⟩)
theorem q2_callVl (P : Int64 → q_S → Prop) (hs : q_Sh σ) (hd : q_D X pc (.invokevirtual idx) 3 nx) (hC : q_CV (m_y X).cls idx Y n ci) (hk0 : q_kd a = (0, ci)) (hn : As.length = n) (hst : q_cats st ≤ 8) (h : q_Call G d 0 0 Y (.ref a :: As) σ (q_rl P)) (hq : ∀ v σ1, q_Sh σ1 → P v σ1 → q_At G X (d + 1) 0 0 nx ls (.long v :: st) σ1 Q) : q_At G X (d + 1) 0 0 pc ls (As.reverse ++ .ref a :: st) σ Q := q_callV (b := 0) (sb := 0) (b1 := 0) (sb1 := 0) hd hC hk0 (q_lt hs hk0 (by decide)) hn hst h (fun r σ1 hr => by obtain ⟨h1, v, rfl, h2⟩ := hr; exact ⟨q_no_l, q_nNT h1, hq v σ1 h1 h2⟩)
theorem q2_callVv (P : q_S → Prop) (hs : q_Sh σ) (hd : q_D X pc (.invokevirtual idx) 3 nx) (hC : q_CV (m_y X).cls idx Y n ci) (hk0 : q_kd a = (0, ci)) (hn : As.length = n) (hst : q_cats st ≤ 8) (h : q_Call G d 0 0 Y (.ref a :: As) σ (q_rv P)) (hq : ∀ σ1, q_Sh σ1 → P σ1 → q_At G X (d + 1) 0 0 nx ls st σ1 Q) : q_At G X (d + 1) 0 0 pc ls (As.reverse ++ .ref a :: st) σ Q := q_callV (b := 0) (sb := 0) (b1 := 0) (sb1 := 0) hd hC hk0 (q_lt hs hk0 (by decide)) hn hst h (fun r σ1 hr => by obtain ⟨h1, rfl, h2⟩ := hr; exact ⟨q_no_v, q_nNT h1, hq σ1 h1 h2⟩)
theorem q2_callSi (P : Int32 → q_S → Prop) (hs : q_Sh σ) (hd : q_D X pc (.invokestatic idx) 3 nx) (hC : q_CS (m_y X).cls idx Y n) (hn : As.length = n) (hst : q_cats st ≤ 8) (h : q_Call G d 0 0 Y (As) σ (q_ri P)) (hq : ∀ v σ1, q_Sh σ1 → P v σ1 → q_At G X (d + 1) 0 0 nx ls (.int v :: st) σ1 Q) : q_At G X (d + 1) 0 0 pc ls (As.reverse ++ st) σ Q := q_callS (b := 0) (sb := 0) (b1 := 0) (sb1 := 0) hd hC hn hst h (fun r σ1 hr => by obtain ⟨h1, v, rfl, h2⟩ := hr; exact ⟨q_no_i, q_nNT h1, hq v σ1 h1 h2⟩)
theorem q2_callSl (P : Int64 → q_S → Prop) (hs : q_Sh σ) (hd : q_D X pc (.invokestatic idx) 3 nx) (hC : q_CS (m_y X).cls idx Y n) (hn : As.length = n) (hst : q_cats st ≤ 8) (h : q_Call G d 0 0 Y (As) σ (q_rl P)) (hq : ∀ v σ1, q_Sh σ1 → P v σ1 → q_At G X (d + 1) 0 0 nx ls (.long v :: st) σ1 Q) : q_At G X (d + 1) 0 0 pc ls (As.reverse ++ st) σ Q := q_callS (b := 0) (sb := 0) (b1 := 0) (sb1 := 0) hd hC hn hst h (fun r σ1 hr => by obtain ⟨h1, v, rfl, h2⟩ := hr; exact ⟨q_no_l, q_nNT h1, hq v σ1 h1 h2⟩)
theorem q2_callSv (P : q_S → Prop) (hs : q_Sh σ) (hd : q_D X pc (.invokestatic idx) 3 nx) (hC : q_CS (m_y X).cls idx Y n) (hn : As.length = n) (hst : q_cats st ≤ 8) (h : q_Call G d 0 0 Y (As) σ (q_rv P)) (hq : ∀ σ1, q_Sh σ1 → P σ1 → q_At G X (d + 1) 0 0 nx ls st σ1 Q) : q_At G X (d + 1) 0 0 pc ls (As.reverse ++ st) σ Q := q_callS (b := 0) (sb := 0) (b1 := 0) (sb1 := 0) hd hC hn hst h (fun r σ1 hr => by obtain ⟨h1, rfl, h2⟩ := hr; exact ⟨q_no_v, q_nNT h1, hq σ1 h1 h2⟩)
end QTWO
