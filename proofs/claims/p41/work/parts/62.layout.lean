/-! printed by mk62.py: where the cells lie once both objects are made (numbers of cells: FloatTowns 1, Tokens 2, Reader 7, Sailing 8, Ledger 9, Course 14, Survey 20, History 24, now 88, the plans 90 and 110) -/
def kK : aK := [(21, 11), (20, 13), (2, 800), (2, 800), (2, 800), (2, 800), (15, 2), (17, 10), (13, 6), (2, 1729), (2, 8645), (3, 8645), (2, 5), (10, 8), (3, 301), (18, 5), (2, 4), (18, 5), (2, 4), (19, 10), (3, 3000), (18, 5), (2, 4), (12, 5), (4, 30), (18, 5), (2, 4), (18, 5), (2, 4), (18, 5), (2, 4), (18, 5), (2, 4), (18, 5), (2, 4), (18, 5), (2, 4), (18, 5), (2, 4), (18, 5), (2, 4), (18, 5), (2, 4), (18, 5), (2, 4), (18, 5), (2, 4), (18, 5), (2, 4), (18, 5), (2, 4), (18, 5), (2, 4), (18, 5), (2, 4), (18, 5), (2, 4), (18, 5), (2, 4), (18, 5), (2, 4), (18, 5), (2, 4), (18, 5), (2, 4), (18, 5), (2, 4), (18, 5), (2, 4), (18, 5), (2, 4), (18, 5), (2, 4), (18, 5), (2, 4), (18, 5), (2, 4), (18, 5), (2, 4), (18, 5), (2, 4), (18, 5), (2, 4), (18, 5), (2, 4), (18, 5), (2, 4), (18, 5), (2, 4), (14, 17), (2, 3), (2, 5), (2, 20), (2, 25), (2, 25), (2, 4), (16, 10), (3, 5), (2, 64), (2, 4), (2, 4), (3, 64), (2, 72), (11, 4), (2, 4), (2, 4), (2, 24), (2, 36), (2, 15), (14, 17), (2, 3), (2, 5), (2, 20), (2, 25), (2, 25), (2, 4), (16, 10), (3, 5), (2, 64), (2, 4), (2, 4), (3, 64), (2, 72), (11, 4), (2, 4), (2, 4), (2, 24), (2, 36), (2, 15)]
def kR : List (Int × Int × Int) := [(1, 0, 2), (1, 1, 7), (1, 2, 8), (1, 3, 14), (1, 4, 20), (1, 5, 24), (1, 6, 88), (2, 0, 3), (2, 1, 4), (2, 2, 5), (2, 3, 6), (7, 0, 2), (8, 8, 9), (9, 0, 10), (9, 2, 11), (9, 3, 12), (9, 4, 13), (14, 3, 8), (14, 4, 15), (14, 5, 16), (14, 6, 18), (16, 0, 17), (18, 0, 19), (20, 6, 21), (20, 7, 8), (20, 8, 22), (22, 0, 23), (24, 0, 25), (24, 1, 26), (25, 0, 28), (25, 1, 30), (25, 2, 32), (25, 3, 34), (25, 4, 36), (25, 5, 38), (25, 6, 40), (25, 7, 42), (25, 8, 44), (25, 9, 46), (25, 10, 48), (25, 11, 50), (25, 12, 52), (25, 13, 54), (25, 14, 56), (25, 15, 58), (25, 16, 60), (25, 17, 62), (25, 18, 64), (25, 19, 66), (25, 20, 68), (25, 21, 70), (25, 22, 72), (25, 23, 74), (25, 24, 76), (25, 25, 78), (25, 26, 80), (25, 27, 82), (25, 28, 84), (25, 29, 86), (26, 0, 27), (28, 0, 29), (30, 0, 31), (32, 0, 33), (34, 0, 35), (36, 0, 37), (38, 0, 39), (40, 0, 41), (42, 0, 43), (44, 0, 45), (46, 0, 47), (48, 0, 49), (50, 0, 51), (52, 0, 53), (54, 0, 55), (56, 0, 57), (58, 0, 59), (60, 0, 61), (62, 0, 63), (64, 0, 65), (66, 0, 67), (68, 0, 69), (70, 0, 71), (72, 0, 73), (74, 0, 75), (76, 0, 77), (78, 0, 79), (80, 0, 81), (82, 0, 83), (84, 0, 85), (86, 0, 87), (88, 0, 89), (90, 0, 91), (90, 1, 92), (90, 2, 93), (90, 3, 94), (90, 4, 95), (90, 5, 96), (90, 6, 97), (90, 7, 104), (90, 16, 109), (97, 0, 98), (97, 2, 99), (97, 3, 100), (97, 4, 101), (97, 5, 102), (97, 6, 103), (104, 0, 105), (104, 1, 106), (104, 2, 107), (104, 3, 108), (110, 0, 111), (110, 1, 112), (110, 2, 113), (110, 3, 114), (110, 4, 115), (110, 5, 116), (110, 6, 117), (110, 7, 124), (110, 16, 129), (117, 0, 118), (117, 2, 119), (117, 3, 120), (117, 4, 121), (117, 5, 122), (117, 6, 123), (124, 0, 125), (124, 1, 126), (124, 2, 127), (124, 3, 128)]
def LR (σ : aS) : Prop := σ.1 = kK ∧ ∀ q ∈ kR, aget σ q.1 q.2.1 = q.2.2
theorem r_1_0 {σ : aS} (h : LR σ) : aget σ 1 0 = 2 := h.2 (1, 0, 2) (List.mem_of_getElem? (i := 0) rfl)
theorem r_1_1 {σ : aS} (h : LR σ) : aget σ 1 1 = 7 := h.2 (1, 1, 7) (List.mem_of_getElem? (i := 1) rfl)
theorem r_1_2 {σ : aS} (h : LR σ) : aget σ 1 2 = 8 := h.2 (1, 2, 8) (List.mem_of_getElem? (i := 2) rfl)
theorem r_1_3 {σ : aS} (h : LR σ) : aget σ 1 3 = 14 := h.2 (1, 3, 14) (List.mem_of_getElem? (i := 3) rfl)
theorem r_1_4 {σ : aS} (h : LR σ) : aget σ 1 4 = 20 := h.2 (1, 4, 20) (List.mem_of_getElem? (i := 4) rfl)
theorem r_1_5 {σ : aS} (h : LR σ) : aget σ 1 5 = 24 := h.2 (1, 5, 24) (List.mem_of_getElem? (i := 5) rfl)
theorem r_1_6 {σ : aS} (h : LR σ) : aget σ 1 6 = 88 := h.2 (1, 6, 88) (List.mem_of_getElem? (i := 6) rfl)
theorem r_2_0 {σ : aS} (h : LR σ) : aget σ 2 0 = 3 := h.2 (2, 0, 3) (List.mem_of_getElem? (i := 7) rfl)
theorem r_2_1 {σ : aS} (h : LR σ) : aget σ 2 1 = 4 := h.2 (2, 1, 4) (List.mem_of_getElem? (i := 8) rfl)
theorem r_2_2 {σ : aS} (h : LR σ) : aget σ 2 2 = 5 := h.2 (2, 2, 5) (List.mem_of_getElem? (i := 9) rfl)
theorem r_2_3 {σ : aS} (h : LR σ) : aget σ 2 3 = 6 := h.2 (2, 3, 6) (List.mem_of_getElem? (i := 10) rfl)
theorem r_7_0 {σ : aS} (h : LR σ) : aget σ 7 0 = 2 := h.2 (7, 0, 2) (List.mem_of_getElem? (i := 11) rfl)
theorem r_8_8 {σ : aS} (h : LR σ) : aget σ 8 8 = 9 := h.2 (8, 8, 9) (List.mem_of_getElem? (i := 12) rfl)
theorem r_9_0 {σ : aS} (h : LR σ) : aget σ 9 0 = 10 := h.2 (9, 0, 10) (List.mem_of_getElem? (i := 13) rfl)
theorem r_9_2 {σ : aS} (h : LR σ) : aget σ 9 2 = 11 := h.2 (9, 2, 11) (List.mem_of_getElem? (i := 14) rfl)
theorem r_9_3 {σ : aS} (h : LR σ) : aget σ 9 3 = 12 := h.2 (9, 3, 12) (List.mem_of_getElem? (i := 15) rfl)
theorem r_9_4 {σ : aS} (h : LR σ) : aget σ 9 4 = 13 := h.2 (9, 4, 13) (List.mem_of_getElem? (i := 16) rfl)
theorem r_14_3 {σ : aS} (h : LR σ) : aget σ 14 3 = 8 := h.2 (14, 3, 8) (List.mem_of_getElem? (i := 17) rfl)
theorem r_14_4 {σ : aS} (h : LR σ) : aget σ 14 4 = 15 := h.2 (14, 4, 15) (List.mem_of_getElem? (i := 18) rfl)
theorem r_14_5 {σ : aS} (h : LR σ) : aget σ 14 5 = 16 := h.2 (14, 5, 16) (List.mem_of_getElem? (i := 19) rfl)
theorem r_14_6 {σ : aS} (h : LR σ) : aget σ 14 6 = 18 := h.2 (14, 6, 18) (List.mem_of_getElem? (i := 20) rfl)
theorem r_16_0 {σ : aS} (h : LR σ) : aget σ 16 0 = 17 := h.2 (16, 0, 17) (List.mem_of_getElem? (i := 21) rfl)
theorem r_18_0 {σ : aS} (h : LR σ) : aget σ 18 0 = 19 := h.2 (18, 0, 19) (List.mem_of_getElem? (i := 22) rfl)
theorem r_20_6 {σ : aS} (h : LR σ) : aget σ 20 6 = 21 := h.2 (20, 6, 21) (List.mem_of_getElem? (i := 23) rfl)
theorem r_20_7 {σ : aS} (h : LR σ) : aget σ 20 7 = 8 := h.2 (20, 7, 8) (List.mem_of_getElem? (i := 24) rfl)
theorem r_20_8 {σ : aS} (h : LR σ) : aget σ 20 8 = 22 := h.2 (20, 8, 22) (List.mem_of_getElem? (i := 25) rfl)
theorem r_22_0 {σ : aS} (h : LR σ) : aget σ 22 0 = 23 := h.2 (22, 0, 23) (List.mem_of_getElem? (i := 26) rfl)
theorem r_24_0 {σ : aS} (h : LR σ) : aget σ 24 0 = 25 := h.2 (24, 0, 25) (List.mem_of_getElem? (i := 27) rfl)
theorem r_24_1 {σ : aS} (h : LR σ) : aget σ 24 1 = 26 := h.2 (24, 1, 26) (List.mem_of_getElem? (i := 28) rfl)
theorem r_25_0 {σ : aS} (h : LR σ) : aget σ 25 0 = 28 := h.2 (25, 0, 28) (List.mem_of_getElem? (i := 29) rfl)
theorem r_25_1 {σ : aS} (h : LR σ) : aget σ 25 1 = 30 := h.2 (25, 1, 30) (List.mem_of_getElem? (i := 30) rfl)
theorem r_25_2 {σ : aS} (h : LR σ) : aget σ 25 2 = 32 := h.2 (25, 2, 32) (List.mem_of_getElem? (i := 31) rfl)
theorem r_25_3 {σ : aS} (h : LR σ) : aget σ 25 3 = 34 := h.2 (25, 3, 34) (List.mem_of_getElem? (i := 32) rfl)
theorem r_25_4 {σ : aS} (h : LR σ) : aget σ 25 4 = 36 := h.2 (25, 4, 36) (List.mem_of_getElem? (i := 33) rfl)
theorem r_25_5 {σ : aS} (h : LR σ) : aget σ 25 5 = 38 := h.2 (25, 5, 38) (List.mem_of_getElem? (i := 34) rfl)
theorem r_25_6 {σ : aS} (h : LR σ) : aget σ 25 6 = 40 := h.2 (25, 6, 40) (List.mem_of_getElem? (i := 35) rfl)
theorem r_25_7 {σ : aS} (h : LR σ) : aget σ 25 7 = 42 := h.2 (25, 7, 42) (List.mem_of_getElem? (i := 36) rfl)
theorem r_25_8 {σ : aS} (h : LR σ) : aget σ 25 8 = 44 := h.2 (25, 8, 44) (List.mem_of_getElem? (i := 37) rfl)
theorem r_25_9 {σ : aS} (h : LR σ) : aget σ 25 9 = 46 := h.2 (25, 9, 46) (List.mem_of_getElem? (i := 38) rfl)
theorem r_25_10 {σ : aS} (h : LR σ) : aget σ 25 10 = 48 := h.2 (25, 10, 48) (List.mem_of_getElem? (i := 39) rfl)
theorem r_25_11 {σ : aS} (h : LR σ) : aget σ 25 11 = 50 := h.2 (25, 11, 50) (List.mem_of_getElem? (i := 40) rfl)
theorem r_25_12 {σ : aS} (h : LR σ) : aget σ 25 12 = 52 := h.2 (25, 12, 52) (List.mem_of_getElem? (i := 41) rfl)
theorem r_25_13 {σ : aS} (h : LR σ) : aget σ 25 13 = 54 := h.2 (25, 13, 54) (List.mem_of_getElem? (i := 42) rfl)
theorem r_25_14 {σ : aS} (h : LR σ) : aget σ 25 14 = 56 := h.2 (25, 14, 56) (List.mem_of_getElem? (i := 43) rfl)
theorem r_25_15 {σ : aS} (h : LR σ) : aget σ 25 15 = 58 := h.2 (25, 15, 58) (List.mem_of_getElem? (i := 44) rfl)
theorem r_25_16 {σ : aS} (h : LR σ) : aget σ 25 16 = 60 := h.2 (25, 16, 60) (List.mem_of_getElem? (i := 45) rfl)
theorem r_25_17 {σ : aS} (h : LR σ) : aget σ 25 17 = 62 := h.2 (25, 17, 62) (List.mem_of_getElem? (i := 46) rfl)
theorem r_25_18 {σ : aS} (h : LR σ) : aget σ 25 18 = 64 := h.2 (25, 18, 64) (List.mem_of_getElem? (i := 47) rfl)
theorem r_25_19 {σ : aS} (h : LR σ) : aget σ 25 19 = 66 := h.2 (25, 19, 66) (List.mem_of_getElem? (i := 48) rfl)
theorem r_25_20 {σ : aS} (h : LR σ) : aget σ 25 20 = 68 := h.2 (25, 20, 68) (List.mem_of_getElem? (i := 49) rfl)
theorem r_25_21 {σ : aS} (h : LR σ) : aget σ 25 21 = 70 := h.2 (25, 21, 70) (List.mem_of_getElem? (i := 50) rfl)
theorem r_25_22 {σ : aS} (h : LR σ) : aget σ 25 22 = 72 := h.2 (25, 22, 72) (List.mem_of_getElem? (i := 51) rfl)
theorem r_25_23 {σ : aS} (h : LR σ) : aget σ 25 23 = 74 := h.2 (25, 23, 74) (List.mem_of_getElem? (i := 52) rfl)
theorem r_25_24 {σ : aS} (h : LR σ) : aget σ 25 24 = 76 := h.2 (25, 24, 76) (List.mem_of_getElem? (i := 53) rfl)
theorem r_25_25 {σ : aS} (h : LR σ) : aget σ 25 25 = 78 := h.2 (25, 25, 78) (List.mem_of_getElem? (i := 54) rfl)
theorem r_25_26 {σ : aS} (h : LR σ) : aget σ 25 26 = 80 := h.2 (25, 26, 80) (List.mem_of_getElem? (i := 55) rfl)
theorem r_25_27 {σ : aS} (h : LR σ) : aget σ 25 27 = 82 := h.2 (25, 27, 82) (List.mem_of_getElem? (i := 56) rfl)
theorem r_25_28 {σ : aS} (h : LR σ) : aget σ 25 28 = 84 := h.2 (25, 28, 84) (List.mem_of_getElem? (i := 57) rfl)
theorem r_25_29 {σ : aS} (h : LR σ) : aget σ 25 29 = 86 := h.2 (25, 29, 86) (List.mem_of_getElem? (i := 58) rfl)
theorem r_26_0 {σ : aS} (h : LR σ) : aget σ 26 0 = 27 := h.2 (26, 0, 27) (List.mem_of_getElem? (i := 59) rfl)
theorem r_28_0 {σ : aS} (h : LR σ) : aget σ 28 0 = 29 := h.2 (28, 0, 29) (List.mem_of_getElem? (i := 60) rfl)
theorem r_30_0 {σ : aS} (h : LR σ) : aget σ 30 0 = 31 := h.2 (30, 0, 31) (List.mem_of_getElem? (i := 61) rfl)
theorem r_32_0 {σ : aS} (h : LR σ) : aget σ 32 0 = 33 := h.2 (32, 0, 33) (List.mem_of_getElem? (i := 62) rfl)
theorem r_34_0 {σ : aS} (h : LR σ) : aget σ 34 0 = 35 := h.2 (34, 0, 35) (List.mem_of_getElem? (i := 63) rfl)
theorem r_36_0 {σ : aS} (h : LR σ) : aget σ 36 0 = 37 := h.2 (36, 0, 37) (List.mem_of_getElem? (i := 64) rfl)
theorem r_38_0 {σ : aS} (h : LR σ) : aget σ 38 0 = 39 := h.2 (38, 0, 39) (List.mem_of_getElem? (i := 65) rfl)
theorem r_40_0 {σ : aS} (h : LR σ) : aget σ 40 0 = 41 := h.2 (40, 0, 41) (List.mem_of_getElem? (i := 66) rfl)
theorem r_42_0 {σ : aS} (h : LR σ) : aget σ 42 0 = 43 := h.2 (42, 0, 43) (List.mem_of_getElem? (i := 67) rfl)
theorem r_44_0 {σ : aS} (h : LR σ) : aget σ 44 0 = 45 := h.2 (44, 0, 45) (List.mem_of_getElem? (i := 68) rfl)
theorem r_46_0 {σ : aS} (h : LR σ) : aget σ 46 0 = 47 := h.2 (46, 0, 47) (List.mem_of_getElem? (i := 69) rfl)
theorem r_48_0 {σ : aS} (h : LR σ) : aget σ 48 0 = 49 := h.2 (48, 0, 49) (List.mem_of_getElem? (i := 70) rfl)
theorem r_50_0 {σ : aS} (h : LR σ) : aget σ 50 0 = 51 := h.2 (50, 0, 51) (List.mem_of_getElem? (i := 71) rfl)
theorem r_52_0 {σ : aS} (h : LR σ) : aget σ 52 0 = 53 := h.2 (52, 0, 53) (List.mem_of_getElem? (i := 72) rfl)
theorem r_54_0 {σ : aS} (h : LR σ) : aget σ 54 0 = 55 := h.2 (54, 0, 55) (List.mem_of_getElem? (i := 73) rfl)
theorem r_56_0 {σ : aS} (h : LR σ) : aget σ 56 0 = 57 := h.2 (56, 0, 57) (List.mem_of_getElem? (i := 74) rfl)
theorem r_58_0 {σ : aS} (h : LR σ) : aget σ 58 0 = 59 := h.2 (58, 0, 59) (List.mem_of_getElem? (i := 75) rfl)
theorem r_60_0 {σ : aS} (h : LR σ) : aget σ 60 0 = 61 := h.2 (60, 0, 61) (List.mem_of_getElem? (i := 76) rfl)
theorem r_62_0 {σ : aS} (h : LR σ) : aget σ 62 0 = 63 := h.2 (62, 0, 63) (List.mem_of_getElem? (i := 77) rfl)
theorem r_64_0 {σ : aS} (h : LR σ) : aget σ 64 0 = 65 := h.2 (64, 0, 65) (List.mem_of_getElem? (i := 78) rfl)
theorem r_66_0 {σ : aS} (h : LR σ) : aget σ 66 0 = 67 := h.2 (66, 0, 67) (List.mem_of_getElem? (i := 79) rfl)
theorem r_68_0 {σ : aS} (h : LR σ) : aget σ 68 0 = 69 := h.2 (68, 0, 69) (List.mem_of_getElem? (i := 80) rfl)
theorem r_70_0 {σ : aS} (h : LR σ) : aget σ 70 0 = 71 := h.2 (70, 0, 71) (List.mem_of_getElem? (i := 81) rfl)
theorem r_72_0 {σ : aS} (h : LR σ) : aget σ 72 0 = 73 := h.2 (72, 0, 73) (List.mem_of_getElem? (i := 82) rfl)
theorem r_74_0 {σ : aS} (h : LR σ) : aget σ 74 0 = 75 := h.2 (74, 0, 75) (List.mem_of_getElem? (i := 83) rfl)
theorem r_76_0 {σ : aS} (h : LR σ) : aget σ 76 0 = 77 := h.2 (76, 0, 77) (List.mem_of_getElem? (i := 84) rfl)
theorem r_78_0 {σ : aS} (h : LR σ) : aget σ 78 0 = 79 := h.2 (78, 0, 79) (List.mem_of_getElem? (i := 85) rfl)
theorem r_80_0 {σ : aS} (h : LR σ) : aget σ 80 0 = 81 := h.2 (80, 0, 81) (List.mem_of_getElem? (i := 86) rfl)
theorem r_82_0 {σ : aS} (h : LR σ) : aget σ 82 0 = 83 := h.2 (82, 0, 83) (List.mem_of_getElem? (i := 87) rfl)
theorem r_84_0 {σ : aS} (h : LR σ) : aget σ 84 0 = 85 := h.2 (84, 0, 85) (List.mem_of_getElem? (i := 88) rfl)
theorem r_86_0 {σ : aS} (h : LR σ) : aget σ 86 0 = 87 := h.2 (86, 0, 87) (List.mem_of_getElem? (i := 89) rfl)
theorem r_88_0 {σ : aS} (h : LR σ) : aget σ 88 0 = 89 := h.2 (88, 0, 89) (List.mem_of_getElem? (i := 90) rfl)
theorem r_90_0 {σ : aS} (h : LR σ) : aget σ 90 0 = 91 := h.2 (90, 0, 91) (List.mem_of_getElem? (i := 91) rfl)
theorem r_90_1 {σ : aS} (h : LR σ) : aget σ 90 1 = 92 := h.2 (90, 1, 92) (List.mem_of_getElem? (i := 92) rfl)
theorem r_90_2 {σ : aS} (h : LR σ) : aget σ 90 2 = 93 := h.2 (90, 2, 93) (List.mem_of_getElem? (i := 93) rfl)
theorem r_90_3 {σ : aS} (h : LR σ) : aget σ 90 3 = 94 := h.2 (90, 3, 94) (List.mem_of_getElem? (i := 94) rfl)
theorem r_90_4 {σ : aS} (h : LR σ) : aget σ 90 4 = 95 := h.2 (90, 4, 95) (List.mem_of_getElem? (i := 95) rfl)
theorem r_90_5 {σ : aS} (h : LR σ) : aget σ 90 5 = 96 := h.2 (90, 5, 96) (List.mem_of_getElem? (i := 96) rfl)
theorem r_90_6 {σ : aS} (h : LR σ) : aget σ 90 6 = 97 := h.2 (90, 6, 97) (List.mem_of_getElem? (i := 97) rfl)
theorem r_90_7 {σ : aS} (h : LR σ) : aget σ 90 7 = 104 := h.2 (90, 7, 104) (List.mem_of_getElem? (i := 98) rfl)
theorem r_90_16 {σ : aS} (h : LR σ) : aget σ 90 16 = 109 := h.2 (90, 16, 109) (List.mem_of_getElem? (i := 99) rfl)
theorem r_97_0 {σ : aS} (h : LR σ) : aget σ 97 0 = 98 := h.2 (97, 0, 98) (List.mem_of_getElem? (i := 100) rfl)
theorem r_97_2 {σ : aS} (h : LR σ) : aget σ 97 2 = 99 := h.2 (97, 2, 99) (List.mem_of_getElem? (i := 101) rfl)
theorem r_97_3 {σ : aS} (h : LR σ) : aget σ 97 3 = 100 := h.2 (97, 3, 100) (List.mem_of_getElem? (i := 102) rfl)
theorem r_97_4 {σ : aS} (h : LR σ) : aget σ 97 4 = 101 := h.2 (97, 4, 101) (List.mem_of_getElem? (i := 103) rfl)
theorem r_97_5 {σ : aS} (h : LR σ) : aget σ 97 5 = 102 := h.2 (97, 5, 102) (List.mem_of_getElem? (i := 104) rfl)
theorem r_97_6 {σ : aS} (h : LR σ) : aget σ 97 6 = 103 := h.2 (97, 6, 103) (List.mem_of_getElem? (i := 105) rfl)
theorem r_104_0 {σ : aS} (h : LR σ) : aget σ 104 0 = 105 := h.2 (104, 0, 105) (List.mem_of_getElem? (i := 106) rfl)
theorem r_104_1 {σ : aS} (h : LR σ) : aget σ 104 1 = 106 := h.2 (104, 1, 106) (List.mem_of_getElem? (i := 107) rfl)
theorem r_104_2 {σ : aS} (h : LR σ) : aget σ 104 2 = 107 := h.2 (104, 2, 107) (List.mem_of_getElem? (i := 108) rfl)
theorem r_104_3 {σ : aS} (h : LR σ) : aget σ 104 3 = 108 := h.2 (104, 3, 108) (List.mem_of_getElem? (i := 109) rfl)
theorem r_110_0 {σ : aS} (h : LR σ) : aget σ 110 0 = 111 := h.2 (110, 0, 111) (List.mem_of_getElem? (i := 110) rfl)
theorem r_110_1 {σ : aS} (h : LR σ) : aget σ 110 1 = 112 := h.2 (110, 1, 112) (List.mem_of_getElem? (i := 111) rfl)
theorem r_110_2 {σ : aS} (h : LR σ) : aget σ 110 2 = 113 := h.2 (110, 2, 113) (List.mem_of_getElem? (i := 112) rfl)
theorem r_110_3 {σ : aS} (h : LR σ) : aget σ 110 3 = 114 := h.2 (110, 3, 114) (List.mem_of_getElem? (i := 113) rfl)
theorem r_110_4 {σ : aS} (h : LR σ) : aget σ 110 4 = 115 := h.2 (110, 4, 115) (List.mem_of_getElem? (i := 114) rfl)
theorem r_110_5 {σ : aS} (h : LR σ) : aget σ 110 5 = 116 := h.2 (110, 5, 116) (List.mem_of_getElem? (i := 115) rfl)
theorem r_110_6 {σ : aS} (h : LR σ) : aget σ 110 6 = 117 := h.2 (110, 6, 117) (List.mem_of_getElem? (i := 116) rfl)
theorem r_110_7 {σ : aS} (h : LR σ) : aget σ 110 7 = 124 := h.2 (110, 7, 124) (List.mem_of_getElem? (i := 117) rfl)
theorem r_110_16 {σ : aS} (h : LR σ) : aget σ 110 16 = 129 := h.2 (110, 16, 129) (List.mem_of_getElem? (i := 118) rfl)
theorem r_117_0 {σ : aS} (h : LR σ) : aget σ 117 0 = 118 := h.2 (117, 0, 118) (List.mem_of_getElem? (i := 119) rfl)
theorem r_117_2 {σ : aS} (h : LR σ) : aget σ 117 2 = 119 := h.2 (117, 2, 119) (List.mem_of_getElem? (i := 120) rfl)
theorem r_117_3 {σ : aS} (h : LR σ) : aget σ 117 3 = 120 := h.2 (117, 3, 120) (List.mem_of_getElem? (i := 121) rfl)
theorem r_117_4 {σ : aS} (h : LR σ) : aget σ 117 4 = 121 := h.2 (117, 4, 121) (List.mem_of_getElem? (i := 122) rfl)
theorem r_117_5 {σ : aS} (h : LR σ) : aget σ 117 5 = 122 := h.2 (117, 5, 122) (List.mem_of_getElem? (i := 123) rfl)
theorem r_117_6 {σ : aS} (h : LR σ) : aget σ 117 6 = 123 := h.2 (117, 6, 123) (List.mem_of_getElem? (i := 124) rfl)
theorem r_124_0 {σ : aS} (h : LR σ) : aget σ 124 0 = 125 := h.2 (124, 0, 125) (List.mem_of_getElem? (i := 125) rfl)
theorem r_124_1 {σ : aS} (h : LR σ) : aget σ 124 1 = 126 := h.2 (124, 1, 126) (List.mem_of_getElem? (i := 126) rfl)
theorem r_124_2 {σ : aS} (h : LR σ) : aget σ 124 2 = 127 := h.2 (124, 2, 127) (List.mem_of_getElem? (i := 127) rfl)
theorem r_124_3 {σ : aS} (h : LR σ) : aget σ 124 3 = 128 := h.2 (124, 3, 128) (List.mem_of_getElem? (i := 128) rfl)
theorem n_3 {σ : aS} (h : LR σ) : alen σ 3 = 800 := by unfold alen; rw [h.1]; rfl
theorem n_4 {σ : aS} (h : LR σ) : alen σ 4 = 800 := by unfold alen; rw [h.1]; rfl
theorem n_5 {σ : aS} (h : LR σ) : alen σ 5 = 800 := by unfold alen; rw [h.1]; rfl
theorem n_6 {σ : aS} (h : LR σ) : alen σ 6 = 800 := by unfold alen; rw [h.1]; rfl
theorem n_10 {σ : aS} (h : LR σ) : alen σ 10 = 1729 := by unfold alen; rw [h.1]; rfl
theorem n_11 {σ : aS} (h : LR σ) : alen σ 11 = 8645 := by unfold alen; rw [h.1]; rfl
theorem n_12 {σ : aS} (h : LR σ) : alen σ 12 = 8645 := by unfold alen; rw [h.1]; rfl
theorem n_13 {σ : aS} (h : LR σ) : alen σ 13 = 5 := by unfold alen; rw [h.1]; rfl
theorem n_15 {σ : aS} (h : LR σ) : alen σ 15 = 301 := by unfold alen; rw [h.1]; rfl
theorem n_17 {σ : aS} (h : LR σ) : alen σ 17 = 4 := by unfold alen; rw [h.1]; rfl
theorem n_19 {σ : aS} (h : LR σ) : alen σ 19 = 4 := by unfold alen; rw [h.1]; rfl
theorem n_21 {σ : aS} (h : LR σ) : alen σ 21 = 3000 := by unfold alen; rw [h.1]; rfl
theorem n_23 {σ : aS} (h : LR σ) : alen σ 23 = 4 := by unfold alen; rw [h.1]; rfl
theorem n_25 {σ : aS} (h : LR σ) : alen σ 25 = 30 := by unfold alen; rw [h.1]; rfl
theorem n_27 {σ : aS} (h : LR σ) : alen σ 27 = 4 := by unfold alen; rw [h.1]; rfl
theorem n_29 {σ : aS} (h : LR σ) : alen σ 29 = 4 := by unfold alen; rw [h.1]; rfl
theorem n_31 {σ : aS} (h : LR σ) : alen σ 31 = 4 := by unfold alen; rw [h.1]; rfl
theorem n_33 {σ : aS} (h : LR σ) : alen σ 33 = 4 := by unfold alen; rw [h.1]; rfl
theorem n_35 {σ : aS} (h : LR σ) : alen σ 35 = 4 := by unfold alen; rw [h.1]; rfl
theorem n_37 {σ : aS} (h : LR σ) : alen σ 37 = 4 := by unfold alen; rw [h.1]; rfl
theorem n_39 {σ : aS} (h : LR σ) : alen σ 39 = 4 := by unfold alen; rw [h.1]; rfl
theorem n_41 {σ : aS} (h : LR σ) : alen σ 41 = 4 := by unfold alen; rw [h.1]; rfl
theorem n_43 {σ : aS} (h : LR σ) : alen σ 43 = 4 := by unfold alen; rw [h.1]; rfl
theorem n_45 {σ : aS} (h : LR σ) : alen σ 45 = 4 := by unfold alen; rw [h.1]; rfl
theorem n_47 {σ : aS} (h : LR σ) : alen σ 47 = 4 := by unfold alen; rw [h.1]; rfl
theorem n_49 {σ : aS} (h : LR σ) : alen σ 49 = 4 := by unfold alen; rw [h.1]; rfl
theorem n_51 {σ : aS} (h : LR σ) : alen σ 51 = 4 := by unfold alen; rw [h.1]; rfl
theorem n_53 {σ : aS} (h : LR σ) : alen σ 53 = 4 := by unfold alen; rw [h.1]; rfl
theorem n_55 {σ : aS} (h : LR σ) : alen σ 55 = 4 := by unfold alen; rw [h.1]; rfl
theorem n_57 {σ : aS} (h : LR σ) : alen σ 57 = 4 := by unfold alen; rw [h.1]; rfl
theorem n_59 {σ : aS} (h : LR σ) : alen σ 59 = 4 := by unfold alen; rw [h.1]; rfl
theorem n_61 {σ : aS} (h : LR σ) : alen σ 61 = 4 := by unfold alen; rw [h.1]; rfl
theorem n_63 {σ : aS} (h : LR σ) : alen σ 63 = 4 := by unfold alen; rw [h.1]; rfl
theorem n_65 {σ : aS} (h : LR σ) : alen σ 65 = 4 := by unfold alen; rw [h.1]; rfl
theorem n_67 {σ : aS} (h : LR σ) : alen σ 67 = 4 := by unfold alen; rw [h.1]; rfl
theorem n_69 {σ : aS} (h : LR σ) : alen σ 69 = 4 := by unfold alen; rw [h.1]; rfl
theorem n_71 {σ : aS} (h : LR σ) : alen σ 71 = 4 := by unfold alen; rw [h.1]; rfl
theorem n_73 {σ : aS} (h : LR σ) : alen σ 73 = 4 := by unfold alen; rw [h.1]; rfl
theorem n_75 {σ : aS} (h : LR σ) : alen σ 75 = 4 := by unfold alen; rw [h.1]; rfl
theorem n_77 {σ : aS} (h : LR σ) : alen σ 77 = 4 := by unfold alen; rw [h.1]; rfl
theorem n_79 {σ : aS} (h : LR σ) : alen σ 79 = 4 := by unfold alen; rw [h.1]; rfl
theorem n_81 {σ : aS} (h : LR σ) : alen σ 81 = 4 := by unfold alen; rw [h.1]; rfl
theorem n_83 {σ : aS} (h : LR σ) : alen σ 83 = 4 := by unfold alen; rw [h.1]; rfl
theorem n_85 {σ : aS} (h : LR σ) : alen σ 85 = 4 := by unfold alen; rw [h.1]; rfl
theorem n_87 {σ : aS} (h : LR σ) : alen σ 87 = 4 := by unfold alen; rw [h.1]; rfl
theorem n_89 {σ : aS} (h : LR σ) : alen σ 89 = 4 := by unfold alen; rw [h.1]; rfl
theorem n_91 {σ : aS} (h : LR σ) : alen σ 91 = 3 := by unfold alen; rw [h.1]; rfl
theorem n_92 {σ : aS} (h : LR σ) : alen σ 92 = 5 := by unfold alen; rw [h.1]; rfl
theorem n_93 {σ : aS} (h : LR σ) : alen σ 93 = 20 := by unfold alen; rw [h.1]; rfl
theorem n_94 {σ : aS} (h : LR σ) : alen σ 94 = 25 := by unfold alen; rw [h.1]; rfl
theorem n_95 {σ : aS} (h : LR σ) : alen σ 95 = 25 := by unfold alen; rw [h.1]; rfl
theorem n_96 {σ : aS} (h : LR σ) : alen σ 96 = 4 := by unfold alen; rw [h.1]; rfl
theorem n_98 {σ : aS} (h : LR σ) : alen σ 98 = 5 := by unfold alen; rw [h.1]; rfl
theorem n_99 {σ : aS} (h : LR σ) : alen σ 99 = 64 := by unfold alen; rw [h.1]; rfl
theorem n_100 {σ : aS} (h : LR σ) : alen σ 100 = 4 := by unfold alen; rw [h.1]; rfl
theorem n_101 {σ : aS} (h : LR σ) : alen σ 101 = 4 := by unfold alen; rw [h.1]; rfl
theorem n_102 {σ : aS} (h : LR σ) : alen σ 102 = 64 := by unfold alen; rw [h.1]; rfl
theorem n_103 {σ : aS} (h : LR σ) : alen σ 103 = 72 := by unfold alen; rw [h.1]; rfl
theorem n_105 {σ : aS} (h : LR σ) : alen σ 105 = 4 := by unfold alen; rw [h.1]; rfl
theorem n_106 {σ : aS} (h : LR σ) : alen σ 106 = 4 := by unfold alen; rw [h.1]; rfl
theorem n_107 {σ : aS} (h : LR σ) : alen σ 107 = 24 := by unfold alen; rw [h.1]; rfl
theorem n_108 {σ : aS} (h : LR σ) : alen σ 108 = 36 := by unfold alen; rw [h.1]; rfl
theorem n_109 {σ : aS} (h : LR σ) : alen σ 109 = 15 := by unfold alen; rw [h.1]; rfl
theorem n_111 {σ : aS} (h : LR σ) : alen σ 111 = 3 := by unfold alen; rw [h.1]; rfl
theorem n_112 {σ : aS} (h : LR σ) : alen σ 112 = 5 := by unfold alen; rw [h.1]; rfl
theorem n_113 {σ : aS} (h : LR σ) : alen σ 113 = 20 := by unfold alen; rw [h.1]; rfl
theorem n_114 {σ : aS} (h : LR σ) : alen σ 114 = 25 := by unfold alen; rw [h.1]; rfl
theorem n_115 {σ : aS} (h : LR σ) : alen σ 115 = 25 := by unfold alen; rw [h.1]; rfl
theorem n_116 {σ : aS} (h : LR σ) : alen σ 116 = 4 := by unfold alen; rw [h.1]; rfl
theorem n_118 {σ : aS} (h : LR σ) : alen σ 118 = 5 := by unfold alen; rw [h.1]; rfl
theorem n_119 {σ : aS} (h : LR σ) : alen σ 119 = 64 := by unfold alen; rw [h.1]; rfl
theorem n_120 {σ : aS} (h : LR σ) : alen σ 120 = 4 := by unfold alen; rw [h.1]; rfl
theorem n_121 {σ : aS} (h : LR σ) : alen σ 121 = 4 := by unfold alen; rw [h.1]; rfl
theorem n_122 {σ : aS} (h : LR σ) : alen σ 122 = 64 := by unfold alen; rw [h.1]; rfl
theorem n_123 {σ : aS} (h : LR σ) : alen σ 123 = 72 := by unfold alen; rw [h.1]; rfl
theorem n_125 {σ : aS} (h : LR σ) : alen σ 125 = 4 := by unfold alen; rw [h.1]; rfl
theorem n_126 {σ : aS} (h : LR σ) : alen σ 126 = 4 := by unfold alen; rw [h.1]; rfl
theorem n_127 {σ : aS} (h : LR σ) : alen σ 127 = 24 := by unfold alen; rw [h.1]; rfl
theorem n_128 {σ : aS} (h : LR σ) : alen σ 128 = 36 := by unfold alen; rw [h.1]; rfl
theorem n_129 {σ : aS} (h : LR σ) : alen σ 129 = 15 := by unfold alen; rw [h.1]; rfl
theorem r_25 {σ : aS} (h : LR σ) {i : Int} (h0 : 0 ≤ i) (h1 : i < 30) : aget σ 25 i = 28 + 2 * i ∧ aget σ (28 + 2 * i) 0 = 29 + 2 * i ∧ alen σ (29 + 2 * i) = 4 := by
  have e : ∀ k : Nat, k < 30 → ((25, (k : Int), 28 + 2 * (k : Int)) : Int × Int × Int) ∈ kR ∧ ((28 + 2 * (k : Int), 0, 29 + 2 * (k : Int)) : Int × Int × Int) ∈ kR ∧ (kK[28 + 2 * k]?).map Prod.snd = some 4 := by decide +kernel
  obtain ⟨k, rfl⟩ := Int.eq_ofNat_of_zero_le h0
  obtain ⟨e1, e2, e3⟩ := e k (by omega)
  refine ⟨h.2 _ e1, h.2 _ e2, ?_⟩
  unfold alen
  rw [h.1, show (29 + 2 * (k : Int)).toNat = (28 + 2 * k) + 1 by omega]
  show (match kK[28 + 2 * k]? with
    | some q => (q.2 : Int)
    | none => 0) = 4
  cases hh : kK[28 + 2 * k]? with
  | none => rw [hh] at e3; cases e3
  | some q => rw [hh] at e3; cases q with | mk a b => simp at e3; subst e3; rfl
/-- cells that may have changed: a cell's number, and its fields (none named: all of it) -/
def wm (l : List (Int × List Int)) (x j : Int) : Bool := l.any fun q => q.1 == x && (q.2.isEmpty || q.2.contains j)
def Fr (l : List (Int × List Int)) (σ τ : aS) : Prop := τ.1 = σ.1 ∧ τ.2.2 = σ.2.2 ∧ ∀ x j, wm l x j = false → aget τ x j = aget σ x j
theorem Fr.rf (l : List (Int × List Int)) (σ : aS) : Fr l σ σ := ⟨rfl, rfl, fun _ _ _ => rfl⟩
theorem Fr.tr {l : List (Int × List Int)} {σ τ υ : aS} (h1 : Fr l σ τ) (h2 : Fr l τ υ) : Fr l σ υ := ⟨h2.1.trans h1.1, h2.2.1.trans h1.2.1, fun x j h => (h2.2.2 x j h).trans (h1.2.2 x j h)⟩
theorem Fr.put {l : List (Int × List Int)} {σ τ : aS} (h : Fr l σ τ) {x j : Int} (v : Int) (hw : wm l x j = true) : Fr l σ (aput τ x j v) := by
  refine ⟨h.1, h.2.1, fun y k hk => ?_⟩
  rw [ag_if, if_neg (fun q => by rw [q.1, q.2, hw] at hk; cases hk)]
  exact h.2.2 y k hk
def wl (l l' : List (Int × List Int)) : Bool := l.all fun q => l'.any fun q' => q'.1 == q.1 && (q'.2.isEmpty || (!q.2.isEmpty && q.2.all fun j => q'.2.contains j))
theorem wm_mono {l l' : List (Int × List Int)} (h : wl l l' = true) {x j : Int} (hx : wm l x j = true) : wm l' x j = true := by
  unfold wm at hx ⊢
  rw [List.any_eq_true] at hx ⊢
  obtain ⟨q, hq, hq2⟩ := hx
  unfold wl at h
  have h1 := List.all_eq_true.mp h q hq
  rw [List.any_eq_true] at h1
  obtain ⟨q', hq', h2⟩ := h1
  refine ⟨q', hq', ?_⟩
  simp only [Bool.and_eq_true, Bool.or_eq_true, beq_iff_eq] at hq2 h2 ⊢
  refine ⟨h2.1.trans hq2.1, ?_⟩
  rcases h2.2 with h3 | ⟨h3, h4⟩
  · exact Or.inl h3
  · rcases hq2.2 with h5 | h5
    · rw [h5] at h3; cases h3
    · exact Or.inr (List.all_eq_true.mp h4 j (List.contains_iff_mem.mp h5))
theorem Fr.mono {l l' : List (Int × List Int)} {σ τ : aS} (h : Fr l σ τ) (hl : wl l l' = true) : Fr l' σ τ := by
  refine ⟨h.1, h.2.1, fun x j hx => h.2.2 x j ?_⟩
  cases hq : wm l x j with
  | false => rfl
  | true => rw [wm_mono hl hq] at hx; cases hx
theorem Fr.g {l : List (Int × List Int)} {σ τ : aS} (h : Fr l σ τ) {x j : Int} (hw : wm l x j = false) : aget τ x j = aget σ x j := h.2.2 x j hw
theorem Fr.n {l : List (Int × List Int)} {σ τ : aS} (h : Fr l σ τ) (x : Int) : alen τ x = alen σ x := by unfold alen; rw [h.1]
def wR (l : List (Int × List Int)) : Bool := kR.all fun q => !(wm l q.1 q.2.1)
theorem Fr.LR {l : List (Int × List Int)} {σ τ : aS} (h : Fr l σ τ) (hl : wR l = true) (hL : LR σ) : LR τ := by
  refine ⟨h.1.trans hL.1, fun q hq => ?_⟩
  have h1 := List.all_eq_true.mp hl q hq
  rw [h.g (by cases hh : wm l q.1 q.2.1 with | false => rfl | true => rw [hh] at h1; cases h1)]
  exact hL.2 q hq
theorem LR.put {σ : aS} (h : LR σ) {x j : Int} (v : Int) (hx : (kR.all fun q => !(q.1 == x && q.2.1 == j)) = true) : LR (aput σ x j v) := by
  refine ⟨h.1, fun q hq => ?_⟩
  have h1 := List.all_eq_true.mp hx q hq
  rw [ag_if, if_neg (fun e => by simp [e.1, e.2] at h1)]
  exact h.2 q hq
theorem LR.putx {σ : aS} (h : LR σ) {x : Int} (j v : Int) (hx : (kR.all fun q => !(q.1 == x)) = true) : LR (aput σ x j v) := by
  refine ⟨h.1, fun q hq => ?_⟩
  have h1 := List.all_eq_true.mp hx q hq
  rw [ag_if, if_neg (fun e => by simp [e.1] at h1)]
  exact h.2 q hq
