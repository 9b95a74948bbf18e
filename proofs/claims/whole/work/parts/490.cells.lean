/-! PURE 30: shapes and references that never change -/
def sgL : List (Nat × Nat) := [(0, 11), (4, 4), (0, 9), (3, 60), (0, 9), (3, 60), (0, 9), (3, 60), (0, 9), (3, 60), (0, 7), (2, 900), (0, 3), (3, 7), (3, 5), (1, 10), (1, 10), (1, 10), (1, 7), (1, 28), (1, 5), (1, 5), (1, 5), (1, 5), (1, 40), (0, 3), (3, 7), (3, 5), (1, 10), (1, 10), (1, 10), (1, 7), (1, 28), (1, 5), (1, 5), (1, 5), (1, 5), (1, 40), (0, 0), (1, 60), (1, 60), (1, 60), (1, 60), (1, 60), (1, 60), (0, 0), (1, 60), (1, 60), (1, 60), (1, 60), (1, 60), (1, 60), (5, 3), (6, 3), (0, 3), (3, 7), (3, 5), (1, 10), (1, 10), (1, 10), (1, 7), (1, 28), (1, 5), (1, 5), (1, 5), (1, 5), (1, 40), (0, 0), (1, 60), (1, 60), (1, 60), (1, 60), (1, 60), (1, 60), (0, 3), (3, 7), (3, 5), (1, 10), (1, 10), (1, 10), (1, 7), (1, 28), (1, 5), (1, 5), (1, 5), (1, 5), (1, 40), (0, 0), (1, 60), (1, 60), (1, 60), (1, 60), (1, 60), (1, 60), (0, 3), (3, 7), (3, 5), (1, 10), (1, 10), (1, 10), (1, 7), (1, 28), (1, 5), (1, 5), (1, 5), (1, 5), (1, 40), (0, 0), (1, 60), (1, 60), (1, 60), (1, 60), (1, 60), (1, 60), (0, 4), (0, 8), (2, 0), (3, 7), (0, 1), (0, 8), (2, 0), (1, 3), (0, 2), (1, 7), (0, 5), (1, 24), (1, 25), (1, 25), (0, 10), (1, 1024), (0, 6), (1, 60), (1, 5), (0, 12), (1, 2656), (3, 114), (1, 4), (1, 4), (3, 240), (2, 900), (2, 900), (1, 3), (1, 49), (1, 24), (1, 25), (1, 7), (1, 5), (1, 5), (1, 5), (1, 5), (3, 13), (1, 80), (1, 5), (1, 5)]
def rfL : List (Nat × Nat × Nat) := [(0, 3, 1), (0, 4, 10), (0, 9, 52), (0, 10, 53), (0, 12, 114), (0, 13, 118), (0, 14, 122), (0, 15, 124), (0, 16, 128), (0, 17, 130), (0, 18, 132), (1, 0, 2), (2, 3, 3), (1, 1, 4), (4, 3, 5), (1, 2, 6), (6, 3, 7), (1, 3, 8), (8, 3, 9), (10, 0, 11), (12, 7, 13), (12, 8, 14), (12, 9, 15), (12, 10, 16), (12, 11, 17), (12, 12, 18), (12, 13, 19), (12, 14, 20), (12, 15, 21), (12, 16, 22), (12, 17, 23), (12, 18, 24), (25, 7, 26), (25, 8, 27), (25, 9, 28), (25, 10, 29), (25, 11, 30), (25, 12, 31), (25, 13, 32), (25, 14, 33), (25, 15, 34), (25, 16, 35), (25, 17, 36), (25, 18, 37), (54, 7, 55), (54, 8, 56), (54, 9, 57), (54, 10, 58), (54, 11, 59), (54, 12, 60), (54, 13, 61), (54, 14, 62), (54, 15, 63), (54, 16, 64), (54, 17, 65), (54, 18, 66), (74, 7, 75), (74, 8, 76), (74, 9, 77), (74, 10, 78), (74, 11, 79), (74, 12, 80), (74, 13, 81), (74, 14, 82), (74, 15, 83), (74, 16, 84), (74, 17, 85), (74, 18, 86), (94, 7, 95), (94, 8, 96), (94, 9, 97), (94, 10, 98), (94, 11, 99), (94, 12, 100), (94, 13, 101), (94, 14, 102), (94, 15, 103), (94, 16, 104), (94, 17, 105), (94, 18, 106), (38, 3, 39), (38, 4, 40), (38, 5, 41), (38, 6, 42), (38, 7, 43), (38, 8, 44), (45, 3, 46), (45, 4, 47), (45, 5, 48), (45, 6, 49), (45, 7, 50), (45, 8, 51), (67, 3, 68), (67, 4, 69), (67, 5, 70), (67, 6, 71), (67, 7, 72), (67, 8, 73), (87, 3, 88), (87, 4, 89), (87, 5, 90), (87, 6, 91), (87, 7, 92), (87, 8, 93), (107, 3, 108), (107, 4, 109), (107, 5, 110), (107, 6, 111), (107, 7, 112), (107, 8, 113), (52, 0, 54), (53, 0, 67), (52, 1, 74), (53, 1, 87), (52, 2, 94), (53, 2, 107), (114, 0, 115), (114, 1, 117), (118, 0, 119), (118, 1, 121), (122, 0, 123), (124, 0, 125), (124, 2, 126), (124, 3, 127), (128, 0, 129), (130, 0, 131), (133, 0, 134), (133, 1, 135), (133, 5, 136), (133, 6, 137), (133, 7, 138), (133, 8, 139), (133, 9, 140), (133, 21, 141), (133, 24, 142), (133, 25, 143), (133, 26, 144), (133, 28, 145), (133, 29, 146), (133, 30, 147), (133, 31, 148), (133, 32, 149), (133, 33, 150), (133, 36, 151), (133, 37, 152), (133, 38, 153)]
def CX (μ : dtM) : Prop := (dtN μ ≤ 600000 ∧ dtZ μ ≤ 7302250) ∧ (∀ k, k < 154 → dtS μ k = sgL.getD k (7, 0)) ∧ ∀ q, q ∈ rfL → dtR μ q.1 q.2.1 = some q.2.2
theorem CX.kept {P : Nat → Nat → Prop} {μ μ' : dtM} (C : CX μ) (F : Fr P μ μ') : CX μ' := by
  refine ⟨⟨by rw [F.1]; exact C.1.1, by rw [F.2.1]; exact C.1.2⟩, fun k h => by rw [F.S]; exact C.2.1 k h, fun q h => by rw [F.Ra]; exact C.2.2 q h⟩
theorem CX.rf {μ : dtM} (C : CX μ) {i k j v : Nat} (h : rfL[i]? = some (k, j, v)) : dtR μ k j = some v := C.2.2 (k, j, v) (List.mem_of_getElem? h)
theorem CX.s0 {μ : dtM} (C : CX μ) : dtS μ 0 = (0, 11) := C.2.1 0 (by decide)
theorem CX.s1 {μ : dtM} (C : CX μ) : dtS μ 1 = (4, 4) := C.2.1 1 (by decide)
theorem CX.s2 {μ : dtM} (C : CX μ) : dtS μ 2 = (0, 9) := C.2.1 2 (by decide)
theorem CX.s3 {μ : dtM} (C : CX μ) : dtS μ 3 = (3, 60) := C.2.1 3 (by decide)
theorem CX.s4 {μ : dtM} (C : CX μ) : dtS μ 4 = (0, 9) := C.2.1 4 (by decide)
theorem CX.s5 {μ : dtM} (C : CX μ) : dtS μ 5 = (3, 60) := C.2.1 5 (by decide)
theorem CX.s6 {μ : dtM} (C : CX μ) : dtS μ 6 = (0, 9) := C.2.1 6 (by decide)
theorem CX.s7 {μ : dtM} (C : CX μ) : dtS μ 7 = (3, 60) := C.2.1 7 (by decide)
theorem CX.s8 {μ : dtM} (C : CX μ) : dtS μ 8 = (0, 9) := C.2.1 8 (by decide)
theorem CX.s9 {μ : dtM} (C : CX μ) : dtS μ 9 = (3, 60) := C.2.1 9 (by decide)
theorem CX.s10 {μ : dtM} (C : CX μ) : dtS μ 10 = (0, 7) := C.2.1 10 (by decide)
theorem CX.s11 {μ : dtM} (C : CX μ) : dtS μ 11 = (2, 900) := C.2.1 11 (by decide)
theorem CX.s12 {μ : dtM} (C : CX μ) : dtS μ 12 = (0, 3) := C.2.1 12 (by decide)
theorem CX.s13 {μ : dtM} (C : CX μ) : dtS μ 13 = (3, 7) := C.2.1 13 (by decide)
theorem CX.s14 {μ : dtM} (C : CX μ) : dtS μ 14 = (3, 5) := C.2.1 14 (by decide)
theorem CX.s15 {μ : dtM} (C : CX μ) : dtS μ 15 = (1, 10) := C.2.1 15 (by decide)
theorem CX.s16 {μ : dtM} (C : CX μ) : dtS μ 16 = (1, 10) := C.2.1 16 (by decide)
theorem CX.s17 {μ : dtM} (C : CX μ) : dtS μ 17 = (1, 10) := C.2.1 17 (by decide)
theorem CX.s18 {μ : dtM} (C : CX μ) : dtS μ 18 = (1, 7) := C.2.1 18 (by decide)
theorem CX.s19 {μ : dtM} (C : CX μ) : dtS μ 19 = (1, 28) := C.2.1 19 (by decide)
theorem CX.s20 {μ : dtM} (C : CX μ) : dtS μ 20 = (1, 5) := C.2.1 20 (by decide)
theorem CX.s21 {μ : dtM} (C : CX μ) : dtS μ 21 = (1, 5) := C.2.1 21 (by decide)
theorem CX.s22 {μ : dtM} (C : CX μ) : dtS μ 22 = (1, 5) := C.2.1 22 (by decide)
theorem CX.s23 {μ : dtM} (C : CX μ) : dtS μ 23 = (1, 5) := C.2.1 23 (by decide)
theorem CX.s24 {μ : dtM} (C : CX μ) : dtS μ 24 = (1, 40) := C.2.1 24 (by decide)
theorem CX.s25 {μ : dtM} (C : CX μ) : dtS μ 25 = (0, 3) := C.2.1 25 (by decide)
theorem CX.s26 {μ : dtM} (C : CX μ) : dtS μ 26 = (3, 7) := C.2.1 26 (by decide)
theorem CX.s27 {μ : dtM} (C : CX μ) : dtS μ 27 = (3, 5) := C.2.1 27 (by decide)
theorem CX.s28 {μ : dtM} (C : CX μ) : dtS μ 28 = (1, 10) := C.2.1 28 (by decide)
theorem CX.s29 {μ : dtM} (C : CX μ) : dtS μ 29 = (1, 10) := C.2.1 29 (by decide)
theorem CX.s30 {μ : dtM} (C : CX μ) : dtS μ 30 = (1, 10) := C.2.1 30 (by decide)
theorem CX.s31 {μ : dtM} (C : CX μ) : dtS μ 31 = (1, 7) := C.2.1 31 (by decide)
theorem CX.s32 {μ : dtM} (C : CX μ) : dtS μ 32 = (1, 28) := C.2.1 32 (by decide)
theorem CX.s33 {μ : dtM} (C : CX μ) : dtS μ 33 = (1, 5) := C.2.1 33 (by decide)
theorem CX.s34 {μ : dtM} (C : CX μ) : dtS μ 34 = (1, 5) := C.2.1 34 (by decide)
theorem CX.s35 {μ : dtM} (C : CX μ) : dtS μ 35 = (1, 5) := C.2.1 35 (by decide)
theorem CX.s36 {μ : dtM} (C : CX μ) : dtS μ 36 = (1, 5) := C.2.1 36 (by decide)
theorem CX.s37 {μ : dtM} (C : CX μ) : dtS μ 37 = (1, 40) := C.2.1 37 (by decide)
theorem CX.s38 {μ : dtM} (C : CX μ) : dtS μ 38 = (0, 0) := C.2.1 38 (by decide)
theorem CX.s39 {μ : dtM} (C : CX μ) : dtS μ 39 = (1, 60) := C.2.1 39 (by decide)
theorem CX.s40 {μ : dtM} (C : CX μ) : dtS μ 40 = (1, 60) := C.2.1 40 (by decide)
theorem CX.s41 {μ : dtM} (C : CX μ) : dtS μ 41 = (1, 60) := C.2.1 41 (by decide)
theorem CX.s42 {μ : dtM} (C : CX μ) : dtS μ 42 = (1, 60) := C.2.1 42 (by decide)
theorem CX.s43 {μ : dtM} (C : CX μ) : dtS μ 43 = (1, 60) := C.2.1 43 (by decide)
theorem CX.s44 {μ : dtM} (C : CX μ) : dtS μ 44 = (1, 60) := C.2.1 44 (by decide)
theorem CX.s45 {μ : dtM} (C : CX μ) : dtS μ 45 = (0, 0) := C.2.1 45 (by decide)
theorem CX.s46 {μ : dtM} (C : CX μ) : dtS μ 46 = (1, 60) := C.2.1 46 (by decide)
theorem CX.s47 {μ : dtM} (C : CX μ) : dtS μ 47 = (1, 60) := C.2.1 47 (by decide)
theorem CX.s48 {μ : dtM} (C : CX μ) : dtS μ 48 = (1, 60) := C.2.1 48 (by decide)
theorem CX.s49 {μ : dtM} (C : CX μ) : dtS μ 49 = (1, 60) := C.2.1 49 (by decide)
theorem CX.s50 {μ : dtM} (C : CX μ) : dtS μ 50 = (1, 60) := C.2.1 50 (by decide)
theorem CX.s51 {μ : dtM} (C : CX μ) : dtS μ 51 = (1, 60) := C.2.1 51 (by decide)
theorem CX.s52 {μ : dtM} (C : CX μ) : dtS μ 52 = (5, 3) := C.2.1 52 (by decide)
theorem CX.s53 {μ : dtM} (C : CX μ) : dtS μ 53 = (6, 3) := C.2.1 53 (by decide)
theorem CX.s54 {μ : dtM} (C : CX μ) : dtS μ 54 = (0, 3) := C.2.1 54 (by decide)
theorem CX.s55 {μ : dtM} (C : CX μ) : dtS μ 55 = (3, 7) := C.2.1 55 (by decide)
theorem CX.s56 {μ : dtM} (C : CX μ) : dtS μ 56 = (3, 5) := C.2.1 56 (by decide)
theorem CX.s57 {μ : dtM} (C : CX μ) : dtS μ 57 = (1, 10) := C.2.1 57 (by decide)
theorem CX.s58 {μ : dtM} (C : CX μ) : dtS μ 58 = (1, 10) := C.2.1 58 (by decide)
theorem CX.s59 {μ : dtM} (C : CX μ) : dtS μ 59 = (1, 10) := C.2.1 59 (by decide)
theorem CX.s60 {μ : dtM} (C : CX μ) : dtS μ 60 = (1, 7) := C.2.1 60 (by decide)
theorem CX.s61 {μ : dtM} (C : CX μ) : dtS μ 61 = (1, 28) := C.2.1 61 (by decide)
theorem CX.s62 {μ : dtM} (C : CX μ) : dtS μ 62 = (1, 5) := C.2.1 62 (by decide)
theorem CX.s63 {μ : dtM} (C : CX μ) : dtS μ 63 = (1, 5) := C.2.1 63 (by decide)
theorem CX.s64 {μ : dtM} (C : CX μ) : dtS μ 64 = (1, 5) := C.2.1 64 (by decide)
theorem CX.s65 {μ : dtM} (C : CX μ) : dtS μ 65 = (1, 5) := C.2.1 65 (by decide)
theorem CX.s66 {μ : dtM} (C : CX μ) : dtS μ 66 = (1, 40) := C.2.1 66 (by decide)
theorem CX.s67 {μ : dtM} (C : CX μ) : dtS μ 67 = (0, 0) := C.2.1 67 (by decide)
theorem CX.s68 {μ : dtM} (C : CX μ) : dtS μ 68 = (1, 60) := C.2.1 68 (by decide)
theorem CX.s69 {μ : dtM} (C : CX μ) : dtS μ 69 = (1, 60) := C.2.1 69 (by decide)
theorem CX.s70 {μ : dtM} (C : CX μ) : dtS μ 70 = (1, 60) := C.2.1 70 (by decide)
theorem CX.s71 {μ : dtM} (C : CX μ) : dtS μ 71 = (1, 60) := C.2.1 71 (by decide)
theorem CX.s72 {μ : dtM} (C : CX μ) : dtS μ 72 = (1, 60) := C.2.1 72 (by decide)
theorem CX.s73 {μ : dtM} (C : CX μ) : dtS μ 73 = (1, 60) := C.2.1 73 (by decide)
theorem CX.s74 {μ : dtM} (C : CX μ) : dtS μ 74 = (0, 3) := C.2.1 74 (by decide)
theorem CX.s75 {μ : dtM} (C : CX μ) : dtS μ 75 = (3, 7) := C.2.1 75 (by decide)
theorem CX.s76 {μ : dtM} (C : CX μ) : dtS μ 76 = (3, 5) := C.2.1 76 (by decide)
theorem CX.s77 {μ : dtM} (C : CX μ) : dtS μ 77 = (1, 10) := C.2.1 77 (by decide)
theorem CX.s78 {μ : dtM} (C : CX μ) : dtS μ 78 = (1, 10) := C.2.1 78 (by decide)
theorem CX.s79 {μ : dtM} (C : CX μ) : dtS μ 79 = (1, 10) := C.2.1 79 (by decide)
theorem CX.s80 {μ : dtM} (C : CX μ) : dtS μ 80 = (1, 7) := C.2.1 80 (by decide)
theorem CX.s81 {μ : dtM} (C : CX μ) : dtS μ 81 = (1, 28) := C.2.1 81 (by decide)
theorem CX.s82 {μ : dtM} (C : CX μ) : dtS μ 82 = (1, 5) := C.2.1 82 (by decide)
theorem CX.s83 {μ : dtM} (C : CX μ) : dtS μ 83 = (1, 5) := C.2.1 83 (by decide)
theorem CX.s84 {μ : dtM} (C : CX μ) : dtS μ 84 = (1, 5) := C.2.1 84 (by decide)
theorem CX.s85 {μ : dtM} (C : CX μ) : dtS μ 85 = (1, 5) := C.2.1 85 (by decide)
theorem CX.s86 {μ : dtM} (C : CX μ) : dtS μ 86 = (1, 40) := C.2.1 86 (by decide)
theorem CX.s87 {μ : dtM} (C : CX μ) : dtS μ 87 = (0, 0) := C.2.1 87 (by decide)
theorem CX.s88 {μ : dtM} (C : CX μ) : dtS μ 88 = (1, 60) := C.2.1 88 (by decide)
theorem CX.s89 {μ : dtM} (C : CX μ) : dtS μ 89 = (1, 60) := C.2.1 89 (by decide)
theorem CX.s90 {μ : dtM} (C : CX μ) : dtS μ 90 = (1, 60) := C.2.1 90 (by decide)
theorem CX.s91 {μ : dtM} (C : CX μ) : dtS μ 91 = (1, 60) := C.2.1 91 (by decide)
theorem CX.s92 {μ : dtM} (C : CX μ) : dtS μ 92 = (1, 60) := C.2.1 92 (by decide)
theorem CX.s93 {μ : dtM} (C : CX μ) : dtS μ 93 = (1, 60) := C.2.1 93 (by decide)
theorem CX.s94 {μ : dtM} (C : CX μ) : dtS μ 94 = (0, 3) := C.2.1 94 (by decide)
theorem CX.s95 {μ : dtM} (C : CX μ) : dtS μ 95 = (3, 7) := C.2.1 95 (by decide)
theorem CX.s96 {μ : dtM} (C : CX μ) : dtS μ 96 = (3, 5) := C.2.1 96 (by decide)
theorem CX.s97 {μ : dtM} (C : CX μ) : dtS μ 97 = (1, 10) := C.2.1 97 (by decide)
theorem CX.s98 {μ : dtM} (C : CX μ) : dtS μ 98 = (1, 10) := C.2.1 98 (by decide)
theorem CX.s99 {μ : dtM} (C : CX μ) : dtS μ 99 = (1, 10) := C.2.1 99 (by decide)
theorem CX.s100 {μ : dtM} (C : CX μ) : dtS μ 100 = (1, 7) := C.2.1 100 (by decide)
theorem CX.s101 {μ : dtM} (C : CX μ) : dtS μ 101 = (1, 28) := C.2.1 101 (by decide)
theorem CX.s102 {μ : dtM} (C : CX μ) : dtS μ 102 = (1, 5) := C.2.1 102 (by decide)
theorem CX.s103 {μ : dtM} (C : CX μ) : dtS μ 103 = (1, 5) := C.2.1 103 (by decide)
theorem CX.s104 {μ : dtM} (C : CX μ) : dtS μ 104 = (1, 5) := C.2.1 104 (by decide)
theorem CX.s105 {μ : dtM} (C : CX μ) : dtS μ 105 = (1, 5) := C.2.1 105 (by decide)
theorem CX.s106 {μ : dtM} (C : CX μ) : dtS μ 106 = (1, 40) := C.2.1 106 (by decide)
theorem CX.s107 {μ : dtM} (C : CX μ) : dtS μ 107 = (0, 0) := C.2.1 107 (by decide)
theorem CX.s108 {μ : dtM} (C : CX μ) : dtS μ 108 = (1, 60) := C.2.1 108 (by decide)
theorem CX.s109 {μ : dtM} (C : CX μ) : dtS μ 109 = (1, 60) := C.2.1 109 (by decide)
theorem CX.s110 {μ : dtM} (C : CX μ) : dtS μ 110 = (1, 60) := C.2.1 110 (by decide)
theorem CX.s111 {μ : dtM} (C : CX μ) : dtS μ 111 = (1, 60) := C.2.1 111 (by decide)
theorem CX.s112 {μ : dtM} (C : CX μ) : dtS μ 112 = (1, 60) := C.2.1 112 (by decide)
theorem CX.s113 {μ : dtM} (C : CX μ) : dtS μ 113 = (1, 60) := C.2.1 113 (by decide)
theorem CX.s114 {μ : dtM} (C : CX μ) : dtS μ 114 = (0, 4) := C.2.1 114 (by decide)
theorem CX.s115 {μ : dtM} (C : CX μ) : dtS μ 115 = (0, 8) := C.2.1 115 (by decide)
theorem CX.s116 {μ : dtM} (C : CX μ) : dtS μ 116 = (2, 0) := C.2.1 116 (by decide)
theorem CX.s117 {μ : dtM} (C : CX μ) : dtS μ 117 = (3, 7) := C.2.1 117 (by decide)
theorem CX.s118 {μ : dtM} (C : CX μ) : dtS μ 118 = (0, 1) := C.2.1 118 (by decide)
theorem CX.s119 {μ : dtM} (C : CX μ) : dtS μ 119 = (0, 8) := C.2.1 119 (by decide)
theorem CX.s120 {μ : dtM} (C : CX μ) : dtS μ 120 = (2, 0) := C.2.1 120 (by decide)
theorem CX.s121 {μ : dtM} (C : CX μ) : dtS μ 121 = (1, 3) := C.2.1 121 (by decide)
theorem CX.s122 {μ : dtM} (C : CX μ) : dtS μ 122 = (0, 2) := C.2.1 122 (by decide)
theorem CX.s123 {μ : dtM} (C : CX μ) : dtS μ 123 = (1, 7) := C.2.1 123 (by decide)
theorem CX.s124 {μ : dtM} (C : CX μ) : dtS μ 124 = (0, 5) := C.2.1 124 (by decide)
theorem CX.s125 {μ : dtM} (C : CX μ) : dtS μ 125 = (1, 24) := C.2.1 125 (by decide)
theorem CX.s126 {μ : dtM} (C : CX μ) : dtS μ 126 = (1, 25) := C.2.1 126 (by decide)
theorem CX.s127 {μ : dtM} (C : CX μ) : dtS μ 127 = (1, 25) := C.2.1 127 (by decide)
theorem CX.s128 {μ : dtM} (C : CX μ) : dtS μ 128 = (0, 10) := C.2.1 128 (by decide)
theorem CX.s129 {μ : dtM} (C : CX μ) : dtS μ 129 = (1, 1024) := C.2.1 129 (by decide)
theorem CX.s130 {μ : dtM} (C : CX μ) : dtS μ 130 = (0, 6) := C.2.1 130 (by decide)
theorem CX.s131 {μ : dtM} (C : CX μ) : dtS μ 131 = (1, 60) := C.2.1 131 (by decide)
theorem CX.s132 {μ : dtM} (C : CX μ) : dtS μ 132 = (1, 5) := C.2.1 132 (by decide)
theorem CX.s133 {μ : dtM} (C : CX μ) : dtS μ 133 = (0, 12) := C.2.1 133 (by decide)
theorem CX.s134 {μ : dtM} (C : CX μ) : dtS μ 134 = (1, 2656) := C.2.1 134 (by decide)
theorem CX.s135 {μ : dtM} (C : CX μ) : dtS μ 135 = (3, 114) := C.2.1 135 (by decide)
theorem CX.s136 {μ : dtM} (C : CX μ) : dtS μ 136 = (1, 4) := C.2.1 136 (by decide)
theorem CX.s137 {μ : dtM} (C : CX μ) : dtS μ 137 = (1, 4) := C.2.1 137 (by decide)
theorem CX.s138 {μ : dtM} (C : CX μ) : dtS μ 138 = (3, 240) := C.2.1 138 (by decide)
theorem CX.s139 {μ : dtM} (C : CX μ) : dtS μ 139 = (2, 900) := C.2.1 139 (by decide)
theorem CX.s140 {μ : dtM} (C : CX μ) : dtS μ 140 = (2, 900) := C.2.1 140 (by decide)
theorem CX.s141 {μ : dtM} (C : CX μ) : dtS μ 141 = (1, 3) := C.2.1 141 (by decide)
theorem CX.s142 {μ : dtM} (C : CX μ) : dtS μ 142 = (1, 49) := C.2.1 142 (by decide)
theorem CX.s143 {μ : dtM} (C : CX μ) : dtS μ 143 = (1, 24) := C.2.1 143 (by decide)
theorem CX.s144 {μ : dtM} (C : CX μ) : dtS μ 144 = (1, 25) := C.2.1 144 (by decide)
theorem CX.s145 {μ : dtM} (C : CX μ) : dtS μ 145 = (1, 7) := C.2.1 145 (by decide)
theorem CX.s146 {μ : dtM} (C : CX μ) : dtS μ 146 = (1, 5) := C.2.1 146 (by decide)
theorem CX.s147 {μ : dtM} (C : CX μ) : dtS μ 147 = (1, 5) := C.2.1 147 (by decide)
theorem CX.s148 {μ : dtM} (C : CX μ) : dtS μ 148 = (1, 5) := C.2.1 148 (by decide)
theorem CX.s149 {μ : dtM} (C : CX μ) : dtS μ 149 = (1, 5) := C.2.1 149 (by decide)
theorem CX.s150 {μ : dtM} (C : CX μ) : dtS μ 150 = (3, 13) := C.2.1 150 (by decide)
theorem CX.s151 {μ : dtM} (C : CX μ) : dtS μ 151 = (1, 80) := C.2.1 151 (by decide)
theorem CX.s152 {μ : dtM} (C : CX μ) : dtS μ 152 = (1, 5) := C.2.1 152 (by decide)
theorem CX.s153 {μ : dtM} (C : CX μ) : dtS μ 153 = (1, 5) := C.2.1 153 (by decide)
theorem CX.r0_3 {μ : dtM} (C : CX μ) : dtR μ 0 3 = some 1 := C.rf (i := 0) rfl
theorem CX.g0_3 {μ : dtM} (C : CX μ) : opGR 11 3 μ 0 = some 1 := o_GR C.s0 C.r0_3
theorem CX.r0_4 {μ : dtM} (C : CX μ) : dtR μ 0 4 = some 10 := C.rf (i := 1) rfl
theorem CX.g0_4 {μ : dtM} (C : CX μ) : opGR 11 4 μ 0 = some 10 := o_GR C.s0 C.r0_4
theorem CX.r0_9 {μ : dtM} (C : CX μ) : dtR μ 0 9 = some 52 := C.rf (i := 2) rfl
theorem CX.g0_9 {μ : dtM} (C : CX μ) : opGR 11 9 μ 0 = some 52 := o_GR C.s0 C.r0_9
theorem CX.r0_10 {μ : dtM} (C : CX μ) : dtR μ 0 10 = some 53 := C.rf (i := 3) rfl
theorem CX.g0_10 {μ : dtM} (C : CX μ) : opGR 11 10 μ 0 = some 53 := o_GR C.s0 C.r0_10
theorem CX.r0_12 {μ : dtM} (C : CX μ) : dtR μ 0 12 = some 114 := C.rf (i := 4) rfl
theorem CX.g0_12 {μ : dtM} (C : CX μ) : opGR 11 12 μ 0 = some 114 := o_GR C.s0 C.r0_12
theorem CX.r0_13 {μ : dtM} (C : CX μ) : dtR μ 0 13 = some 118 := C.rf (i := 5) rfl
theorem CX.g0_13 {μ : dtM} (C : CX μ) : opGR 11 13 μ 0 = some 118 := o_GR C.s0 C.r0_13
theorem CX.r0_14 {μ : dtM} (C : CX μ) : dtR μ 0 14 = some 122 := C.rf (i := 6) rfl
theorem CX.g0_14 {μ : dtM} (C : CX μ) : opGR 11 14 μ 0 = some 122 := o_GR C.s0 C.r0_14
theorem CX.r0_15 {μ : dtM} (C : CX μ) : dtR μ 0 15 = some 124 := C.rf (i := 7) rfl
theorem CX.g0_15 {μ : dtM} (C : CX μ) : opGR 11 15 μ 0 = some 124 := o_GR C.s0 C.r0_15
theorem CX.r0_16 {μ : dtM} (C : CX μ) : dtR μ 0 16 = some 128 := C.rf (i := 8) rfl
theorem CX.g0_16 {μ : dtM} (C : CX μ) : opGR 11 16 μ 0 = some 128 := o_GR C.s0 C.r0_16
theorem CX.r0_17 {μ : dtM} (C : CX μ) : dtR μ 0 17 = some 130 := C.rf (i := 9) rfl
theorem CX.g0_17 {μ : dtM} (C : CX μ) : opGR 11 17 μ 0 = some 130 := o_GR C.s0 C.r0_17
theorem CX.r0_18 {μ : dtM} (C : CX μ) : dtR μ 0 18 = some 132 := C.rf (i := 10) rfl
theorem CX.g0_18 {μ : dtM} (C : CX μ) : opGR 11 18 μ 0 = some 132 := o_GR C.s0 C.r0_18
theorem CX.r1_0 {μ : dtM} (C : CX μ) : dtR μ 1 0 = some 2 := C.rf (i := 11) rfl
theorem CX.r2_3 {μ : dtM} (C : CX μ) : dtR μ 2 3 = some 3 := C.rf (i := 12) rfl
theorem CX.g2_3 {μ : dtM} (C : CX μ) : opGR 9 3 μ 2 = some 3 := o_GR C.s2 C.r2_3
theorem CX.r1_1 {μ : dtM} (C : CX μ) : dtR μ 1 1 = some 4 := C.rf (i := 13) rfl
theorem CX.r4_3 {μ : dtM} (C : CX μ) : dtR μ 4 3 = some 5 := C.rf (i := 14) rfl
theorem CX.g4_3 {μ : dtM} (C : CX μ) : opGR 9 3 μ 4 = some 5 := o_GR C.s4 C.r4_3
theorem CX.r1_2 {μ : dtM} (C : CX μ) : dtR μ 1 2 = some 6 := C.rf (i := 15) rfl
theorem CX.r6_3 {μ : dtM} (C : CX μ) : dtR μ 6 3 = some 7 := C.rf (i := 16) rfl
theorem CX.g6_3 {μ : dtM} (C : CX μ) : opGR 9 3 μ 6 = some 7 := o_GR C.s6 C.r6_3
theorem CX.r1_3 {μ : dtM} (C : CX μ) : dtR μ 1 3 = some 8 := C.rf (i := 17) rfl
theorem CX.r8_3 {μ : dtM} (C : CX μ) : dtR μ 8 3 = some 9 := C.rf (i := 18) rfl
theorem CX.g8_3 {μ : dtM} (C : CX μ) : opGR 9 3 μ 8 = some 9 := o_GR C.s8 C.r8_3
theorem CX.r10_0 {μ : dtM} (C : CX μ) : dtR μ 10 0 = some 11 := C.rf (i := 19) rfl
theorem CX.g10_0 {μ : dtM} (C : CX μ) : opGR 7 0 μ 10 = some 11 := o_GR C.s10 C.r10_0
theorem CX.r12_7 {μ : dtM} (C : CX μ) : dtR μ 12 7 = some 13 := C.rf (i := 20) rfl
theorem CX.g12_7 {μ : dtM} (C : CX μ) : opGR 3 7 μ 12 = some 13 := o_GR C.s12 C.r12_7
theorem CX.r12_8 {μ : dtM} (C : CX μ) : dtR μ 12 8 = some 14 := C.rf (i := 21) rfl
theorem CX.g12_8 {μ : dtM} (C : CX μ) : opGR 3 8 μ 12 = some 14 := o_GR C.s12 C.r12_8
theorem CX.r12_9 {μ : dtM} (C : CX μ) : dtR μ 12 9 = some 15 := C.rf (i := 22) rfl
theorem CX.g12_9 {μ : dtM} (C : CX μ) : opGR 3 9 μ 12 = some 15 := o_GR C.s12 C.r12_9
theorem CX.r12_10 {μ : dtM} (C : CX μ) : dtR μ 12 10 = some 16 := C.rf (i := 23) rfl
theorem CX.g12_10 {μ : dtM} (C : CX μ) : opGR 3 10 μ 12 = some 16 := o_GR C.s12 C.r12_10
theorem CX.r12_11 {μ : dtM} (C : CX μ) : dtR μ 12 11 = some 17 := C.rf (i := 24) rfl
theorem CX.g12_11 {μ : dtM} (C : CX μ) : opGR 3 11 μ 12 = some 17 := o_GR C.s12 C.r12_11
theorem CX.r12_12 {μ : dtM} (C : CX μ) : dtR μ 12 12 = some 18 := C.rf (i := 25) rfl
theorem CX.g12_12 {μ : dtM} (C : CX μ) : opGR 3 12 μ 12 = some 18 := o_GR C.s12 C.r12_12
theorem CX.r12_13 {μ : dtM} (C : CX μ) : dtR μ 12 13 = some 19 := C.rf (i := 26) rfl
theorem CX.g12_13 {μ : dtM} (C : CX μ) : opGR 3 13 μ 12 = some 19 := o_GR C.s12 C.r12_13
theorem CX.r12_14 {μ : dtM} (C : CX μ) : dtR μ 12 14 = some 20 := C.rf (i := 27) rfl
theorem CX.g12_14 {μ : dtM} (C : CX μ) : opGR 3 14 μ 12 = some 20 := o_GR C.s12 C.r12_14
theorem CX.r12_15 {μ : dtM} (C : CX μ) : dtR μ 12 15 = some 21 := C.rf (i := 28) rfl
theorem CX.g12_15 {μ : dtM} (C : CX μ) : opGR 3 15 μ 12 = some 21 := o_GR C.s12 C.r12_15
theorem CX.r12_16 {μ : dtM} (C : CX μ) : dtR μ 12 16 = some 22 := C.rf (i := 29) rfl
theorem CX.g12_16 {μ : dtM} (C : CX μ) : opGR 3 16 μ 12 = some 22 := o_GR C.s12 C.r12_16
theorem CX.r12_17 {μ : dtM} (C : CX μ) : dtR μ 12 17 = some 23 := C.rf (i := 30) rfl
theorem CX.g12_17 {μ : dtM} (C : CX μ) : opGR 3 17 μ 12 = some 23 := o_GR C.s12 C.r12_17
theorem CX.r12_18 {μ : dtM} (C : CX μ) : dtR μ 12 18 = some 24 := C.rf (i := 31) rfl
theorem CX.g12_18 {μ : dtM} (C : CX μ) : opGR 3 18 μ 12 = some 24 := o_GR C.s12 C.r12_18
theorem CX.r25_7 {μ : dtM} (C : CX μ) : dtR μ 25 7 = some 26 := C.rf (i := 32) rfl
theorem CX.g25_7 {μ : dtM} (C : CX μ) : opGR 3 7 μ 25 = some 26 := o_GR C.s25 C.r25_7
theorem CX.r25_8 {μ : dtM} (C : CX μ) : dtR μ 25 8 = some 27 := C.rf (i := 33) rfl
theorem CX.g25_8 {μ : dtM} (C : CX μ) : opGR 3 8 μ 25 = some 27 := o_GR C.s25 C.r25_8
theorem CX.r25_9 {μ : dtM} (C : CX μ) : dtR μ 25 9 = some 28 := C.rf (i := 34) rfl
theorem CX.g25_9 {μ : dtM} (C : CX μ) : opGR 3 9 μ 25 = some 28 := o_GR C.s25 C.r25_9
theorem CX.r25_10 {μ : dtM} (C : CX μ) : dtR μ 25 10 = some 29 := C.rf (i := 35) rfl
theorem CX.g25_10 {μ : dtM} (C : CX μ) : opGR 3 10 μ 25 = some 29 := o_GR C.s25 C.r25_10
theorem CX.r25_11 {μ : dtM} (C : CX μ) : dtR μ 25 11 = some 30 := C.rf (i := 36) rfl
theorem CX.g25_11 {μ : dtM} (C : CX μ) : opGR 3 11 μ 25 = some 30 := o_GR C.s25 C.r25_11
theorem CX.r25_12 {μ : dtM} (C : CX μ) : dtR μ 25 12 = some 31 := C.rf (i := 37) rfl
theorem CX.g25_12 {μ : dtM} (C : CX μ) : opGR 3 12 μ 25 = some 31 := o_GR C.s25 C.r25_12
theorem CX.r25_13 {μ : dtM} (C : CX μ) : dtR μ 25 13 = some 32 := C.rf (i := 38) rfl
theorem CX.g25_13 {μ : dtM} (C : CX μ) : opGR 3 13 μ 25 = some 32 := o_GR C.s25 C.r25_13
theorem CX.r25_14 {μ : dtM} (C : CX μ) : dtR μ 25 14 = some 33 := C.rf (i := 39) rfl
theorem CX.g25_14 {μ : dtM} (C : CX μ) : opGR 3 14 μ 25 = some 33 := o_GR C.s25 C.r25_14
theorem CX.r25_15 {μ : dtM} (C : CX μ) : dtR μ 25 15 = some 34 := C.rf (i := 40) rfl
theorem CX.g25_15 {μ : dtM} (C : CX μ) : opGR 3 15 μ 25 = some 34 := o_GR C.s25 C.r25_15
theorem CX.r25_16 {μ : dtM} (C : CX μ) : dtR μ 25 16 = some 35 := C.rf (i := 41) rfl
theorem CX.g25_16 {μ : dtM} (C : CX μ) : opGR 3 16 μ 25 = some 35 := o_GR C.s25 C.r25_16
theorem CX.r25_17 {μ : dtM} (C : CX μ) : dtR μ 25 17 = some 36 := C.rf (i := 42) rfl
theorem CX.g25_17 {μ : dtM} (C : CX μ) : opGR 3 17 μ 25 = some 36 := o_GR C.s25 C.r25_17
theorem CX.r25_18 {μ : dtM} (C : CX μ) : dtR μ 25 18 = some 37 := C.rf (i := 43) rfl
theorem CX.g25_18 {μ : dtM} (C : CX μ) : opGR 3 18 μ 25 = some 37 := o_GR C.s25 C.r25_18
theorem CX.r54_7 {μ : dtM} (C : CX μ) : dtR μ 54 7 = some 55 := C.rf (i := 44) rfl
theorem CX.g54_7 {μ : dtM} (C : CX μ) : opGR 3 7 μ 54 = some 55 := o_GR C.s54 C.r54_7
theorem CX.r54_8 {μ : dtM} (C : CX μ) : dtR μ 54 8 = some 56 := C.rf (i := 45) rfl
theorem CX.g54_8 {μ : dtM} (C : CX μ) : opGR 3 8 μ 54 = some 56 := o_GR C.s54 C.r54_8
theorem CX.r54_9 {μ : dtM} (C : CX μ) : dtR μ 54 9 = some 57 := C.rf (i := 46) rfl
theorem CX.g54_9 {μ : dtM} (C : CX μ) : opGR 3 9 μ 54 = some 57 := o_GR C.s54 C.r54_9
theorem CX.r54_10 {μ : dtM} (C : CX μ) : dtR μ 54 10 = some 58 := C.rf (i := 47) rfl
theorem CX.g54_10 {μ : dtM} (C : CX μ) : opGR 3 10 μ 54 = some 58 := o_GR C.s54 C.r54_10
theorem CX.r54_11 {μ : dtM} (C : CX μ) : dtR μ 54 11 = some 59 := C.rf (i := 48) rfl
theorem CX.g54_11 {μ : dtM} (C : CX μ) : opGR 3 11 μ 54 = some 59 := o_GR C.s54 C.r54_11
theorem CX.r54_12 {μ : dtM} (C : CX μ) : dtR μ 54 12 = some 60 := C.rf (i := 49) rfl
theorem CX.g54_12 {μ : dtM} (C : CX μ) : opGR 3 12 μ 54 = some 60 := o_GR C.s54 C.r54_12
theorem CX.r54_13 {μ : dtM} (C : CX μ) : dtR μ 54 13 = some 61 := C.rf (i := 50) rfl
theorem CX.g54_13 {μ : dtM} (C : CX μ) : opGR 3 13 μ 54 = some 61 := o_GR C.s54 C.r54_13
theorem CX.r54_14 {μ : dtM} (C : CX μ) : dtR μ 54 14 = some 62 := C.rf (i := 51) rfl
theorem CX.g54_14 {μ : dtM} (C : CX μ) : opGR 3 14 μ 54 = some 62 := o_GR C.s54 C.r54_14
theorem CX.r54_15 {μ : dtM} (C : CX μ) : dtR μ 54 15 = some 63 := C.rf (i := 52) rfl
theorem CX.g54_15 {μ : dtM} (C : CX μ) : opGR 3 15 μ 54 = some 63 := o_GR C.s54 C.r54_15
theorem CX.r54_16 {μ : dtM} (C : CX μ) : dtR μ 54 16 = some 64 := C.rf (i := 53) rfl
theorem CX.g54_16 {μ : dtM} (C : CX μ) : opGR 3 16 μ 54 = some 64 := o_GR C.s54 C.r54_16
theorem CX.r54_17 {μ : dtM} (C : CX μ) : dtR μ 54 17 = some 65 := C.rf (i := 54) rfl
theorem CX.g54_17 {μ : dtM} (C : CX μ) : opGR 3 17 μ 54 = some 65 := o_GR C.s54 C.r54_17
theorem CX.r54_18 {μ : dtM} (C : CX μ) : dtR μ 54 18 = some 66 := C.rf (i := 55) rfl
theorem CX.g54_18 {μ : dtM} (C : CX μ) : opGR 3 18 μ 54 = some 66 := o_GR C.s54 C.r54_18
theorem CX.r74_7 {μ : dtM} (C : CX μ) : dtR μ 74 7 = some 75 := C.rf (i := 56) rfl
theorem CX.g74_7 {μ : dtM} (C : CX μ) : opGR 3 7 μ 74 = some 75 := o_GR C.s74 C.r74_7
theorem CX.r74_8 {μ : dtM} (C : CX μ) : dtR μ 74 8 = some 76 := C.rf (i := 57) rfl
theorem CX.g74_8 {μ : dtM} (C : CX μ) : opGR 3 8 μ 74 = some 76 := o_GR C.s74 C.r74_8
theorem CX.r74_9 {μ : dtM} (C : CX μ) : dtR μ 74 9 = some 77 := C.rf (i := 58) rfl
theorem CX.g74_9 {μ : dtM} (C : CX μ) : opGR 3 9 μ 74 = some 77 := o_GR C.s74 C.r74_9
theorem CX.r74_10 {μ : dtM} (C : CX μ) : dtR μ 74 10 = some 78 := C.rf (i := 59) rfl
theorem CX.g74_10 {μ : dtM} (C : CX μ) : opGR 3 10 μ 74 = some 78 := o_GR C.s74 C.r74_10
theorem CX.r74_11 {μ : dtM} (C : CX μ) : dtR μ 74 11 = some 79 := C.rf (i := 60) rfl
theorem CX.g74_11 {μ : dtM} (C : CX μ) : opGR 3 11 μ 74 = some 79 := o_GR C.s74 C.r74_11
theorem CX.r74_12 {μ : dtM} (C : CX μ) : dtR μ 74 12 = some 80 := C.rf (i := 61) rfl
theorem CX.g74_12 {μ : dtM} (C : CX μ) : opGR 3 12 μ 74 = some 80 := o_GR C.s74 C.r74_12
theorem CX.r74_13 {μ : dtM} (C : CX μ) : dtR μ 74 13 = some 81 := C.rf (i := 62) rfl
theorem CX.g74_13 {μ : dtM} (C : CX μ) : opGR 3 13 μ 74 = some 81 := o_GR C.s74 C.r74_13
theorem CX.r74_14 {μ : dtM} (C : CX μ) : dtR μ 74 14 = some 82 := C.rf (i := 63) rfl
theorem CX.g74_14 {μ : dtM} (C : CX μ) : opGR 3 14 μ 74 = some 82 := o_GR C.s74 C.r74_14
theorem CX.r74_15 {μ : dtM} (C : CX μ) : dtR μ 74 15 = some 83 := C.rf (i := 64) rfl
theorem CX.g74_15 {μ : dtM} (C : CX μ) : opGR 3 15 μ 74 = some 83 := o_GR C.s74 C.r74_15
theorem CX.r74_16 {μ : dtM} (C : CX μ) : dtR μ 74 16 = some 84 := C.rf (i := 65) rfl
theorem CX.g74_16 {μ : dtM} (C : CX μ) : opGR 3 16 μ 74 = some 84 := o_GR C.s74 C.r74_16
theorem CX.r74_17 {μ : dtM} (C : CX μ) : dtR μ 74 17 = some 85 := C.rf (i := 66) rfl
theorem CX.g74_17 {μ : dtM} (C : CX μ) : opGR 3 17 μ 74 = some 85 := o_GR C.s74 C.r74_17
theorem CX.r74_18 {μ : dtM} (C : CX μ) : dtR μ 74 18 = some 86 := C.rf (i := 67) rfl
theorem CX.g74_18 {μ : dtM} (C : CX μ) : opGR 3 18 μ 74 = some 86 := o_GR C.s74 C.r74_18
theorem CX.r94_7 {μ : dtM} (C : CX μ) : dtR μ 94 7 = some 95 := C.rf (i := 68) rfl
theorem CX.g94_7 {μ : dtM} (C : CX μ) : opGR 3 7 μ 94 = some 95 := o_GR C.s94 C.r94_7
theorem CX.r94_8 {μ : dtM} (C : CX μ) : dtR μ 94 8 = some 96 := C.rf (i := 69) rfl
theorem CX.g94_8 {μ : dtM} (C : CX μ) : opGR 3 8 μ 94 = some 96 := o_GR C.s94 C.r94_8
theorem CX.r94_9 {μ : dtM} (C : CX μ) : dtR μ 94 9 = some 97 := C.rf (i := 70) rfl
theorem CX.g94_9 {μ : dtM} (C : CX μ) : opGR 3 9 μ 94 = some 97 := o_GR C.s94 C.r94_9
theorem CX.r94_10 {μ : dtM} (C : CX μ) : dtR μ 94 10 = some 98 := C.rf (i := 71) rfl
theorem CX.g94_10 {μ : dtM} (C : CX μ) : opGR 3 10 μ 94 = some 98 := o_GR C.s94 C.r94_10
theorem CX.r94_11 {μ : dtM} (C : CX μ) : dtR μ 94 11 = some 99 := C.rf (i := 72) rfl
theorem CX.g94_11 {μ : dtM} (C : CX μ) : opGR 3 11 μ 94 = some 99 := o_GR C.s94 C.r94_11
theorem CX.r94_12 {μ : dtM} (C : CX μ) : dtR μ 94 12 = some 100 := C.rf (i := 73) rfl
theorem CX.g94_12 {μ : dtM} (C : CX μ) : opGR 3 12 μ 94 = some 100 := o_GR C.s94 C.r94_12
theorem CX.r94_13 {μ : dtM} (C : CX μ) : dtR μ 94 13 = some 101 := C.rf (i := 74) rfl
theorem CX.g94_13 {μ : dtM} (C : CX μ) : opGR 3 13 μ 94 = some 101 := o_GR C.s94 C.r94_13
theorem CX.r94_14 {μ : dtM} (C : CX μ) : dtR μ 94 14 = some 102 := C.rf (i := 75) rfl
theorem CX.g94_14 {μ : dtM} (C : CX μ) : opGR 3 14 μ 94 = some 102 := o_GR C.s94 C.r94_14
theorem CX.r94_15 {μ : dtM} (C : CX μ) : dtR μ 94 15 = some 103 := C.rf (i := 76) rfl
theorem CX.g94_15 {μ : dtM} (C : CX μ) : opGR 3 15 μ 94 = some 103 := o_GR C.s94 C.r94_15
theorem CX.r94_16 {μ : dtM} (C : CX μ) : dtR μ 94 16 = some 104 := C.rf (i := 77) rfl
theorem CX.g94_16 {μ : dtM} (C : CX μ) : opGR 3 16 μ 94 = some 104 := o_GR C.s94 C.r94_16
theorem CX.r94_17 {μ : dtM} (C : CX μ) : dtR μ 94 17 = some 105 := C.rf (i := 78) rfl
theorem CX.g94_17 {μ : dtM} (C : CX μ) : opGR 3 17 μ 94 = some 105 := o_GR C.s94 C.r94_17
theorem CX.r94_18 {μ : dtM} (C : CX μ) : dtR μ 94 18 = some 106 := C.rf (i := 79) rfl
theorem CX.g94_18 {μ : dtM} (C : CX μ) : opGR 3 18 μ 94 = some 106 := o_GR C.s94 C.r94_18
theorem CX.r38_3 {μ : dtM} (C : CX μ) : dtR μ 38 3 = some 39 := C.rf (i := 80) rfl
theorem CX.g38_3 {μ : dtM} (C : CX μ) : opGR 0 3 μ 38 = some 39 := o_GR C.s38 C.r38_3
theorem CX.r38_4 {μ : dtM} (C : CX μ) : dtR μ 38 4 = some 40 := C.rf (i := 81) rfl
theorem CX.g38_4 {μ : dtM} (C : CX μ) : opGR 0 4 μ 38 = some 40 := o_GR C.s38 C.r38_4
theorem CX.r38_5 {μ : dtM} (C : CX μ) : dtR μ 38 5 = some 41 := C.rf (i := 82) rfl
theorem CX.g38_5 {μ : dtM} (C : CX μ) : opGR 0 5 μ 38 = some 41 := o_GR C.s38 C.r38_5
theorem CX.r38_6 {μ : dtM} (C : CX μ) : dtR μ 38 6 = some 42 := C.rf (i := 83) rfl
theorem CX.g38_6 {μ : dtM} (C : CX μ) : opGR 0 6 μ 38 = some 42 := o_GR C.s38 C.r38_6
theorem CX.r38_7 {μ : dtM} (C : CX μ) : dtR μ 38 7 = some 43 := C.rf (i := 84) rfl
theorem CX.g38_7 {μ : dtM} (C : CX μ) : opGR 0 7 μ 38 = some 43 := o_GR C.s38 C.r38_7
theorem CX.r38_8 {μ : dtM} (C : CX μ) : dtR μ 38 8 = some 44 := C.rf (i := 85) rfl
theorem CX.g38_8 {μ : dtM} (C : CX μ) : opGR 0 8 μ 38 = some 44 := o_GR C.s38 C.r38_8
theorem CX.r45_3 {μ : dtM} (C : CX μ) : dtR μ 45 3 = some 46 := C.rf (i := 86) rfl
theorem CX.g45_3 {μ : dtM} (C : CX μ) : opGR 0 3 μ 45 = some 46 := o_GR C.s45 C.r45_3
theorem CX.r45_4 {μ : dtM} (C : CX μ) : dtR μ 45 4 = some 47 := C.rf (i := 87) rfl
theorem CX.g45_4 {μ : dtM} (C : CX μ) : opGR 0 4 μ 45 = some 47 := o_GR C.s45 C.r45_4
theorem CX.r45_5 {μ : dtM} (C : CX μ) : dtR μ 45 5 = some 48 := C.rf (i := 88) rfl
theorem CX.g45_5 {μ : dtM} (C : CX μ) : opGR 0 5 μ 45 = some 48 := o_GR C.s45 C.r45_5
theorem CX.r45_6 {μ : dtM} (C : CX μ) : dtR μ 45 6 = some 49 := C.rf (i := 89) rfl
theorem CX.g45_6 {μ : dtM} (C : CX μ) : opGR 0 6 μ 45 = some 49 := o_GR C.s45 C.r45_6
theorem CX.r45_7 {μ : dtM} (C : CX μ) : dtR μ 45 7 = some 50 := C.rf (i := 90) rfl
theorem CX.g45_7 {μ : dtM} (C : CX μ) : opGR 0 7 μ 45 = some 50 := o_GR C.s45 C.r45_7
theorem CX.r45_8 {μ : dtM} (C : CX μ) : dtR μ 45 8 = some 51 := C.rf (i := 91) rfl
theorem CX.g45_8 {μ : dtM} (C : CX μ) : opGR 0 8 μ 45 = some 51 := o_GR C.s45 C.r45_8
theorem CX.r67_3 {μ : dtM} (C : CX μ) : dtR μ 67 3 = some 68 := C.rf (i := 92) rfl
theorem CX.g67_3 {μ : dtM} (C : CX μ) : opGR 0 3 μ 67 = some 68 := o_GR C.s67 C.r67_3
theorem CX.r67_4 {μ : dtM} (C : CX μ) : dtR μ 67 4 = some 69 := C.rf (i := 93) rfl
theorem CX.g67_4 {μ : dtM} (C : CX μ) : opGR 0 4 μ 67 = some 69 := o_GR C.s67 C.r67_4
theorem CX.r67_5 {μ : dtM} (C : CX μ) : dtR μ 67 5 = some 70 := C.rf (i := 94) rfl
theorem CX.g67_5 {μ : dtM} (C : CX μ) : opGR 0 5 μ 67 = some 70 := o_GR C.s67 C.r67_5
theorem CX.r67_6 {μ : dtM} (C : CX μ) : dtR μ 67 6 = some 71 := C.rf (i := 95) rfl
theorem CX.g67_6 {μ : dtM} (C : CX μ) : opGR 0 6 μ 67 = some 71 := o_GR C.s67 C.r67_6
theorem CX.r67_7 {μ : dtM} (C : CX μ) : dtR μ 67 7 = some 72 := C.rf (i := 96) rfl
theorem CX.g67_7 {μ : dtM} (C : CX μ) : opGR 0 7 μ 67 = some 72 := o_GR C.s67 C.r67_7
theorem CX.r67_8 {μ : dtM} (C : CX μ) : dtR μ 67 8 = some 73 := C.rf (i := 97) rfl
theorem CX.g67_8 {μ : dtM} (C : CX μ) : opGR 0 8 μ 67 = some 73 := o_GR C.s67 C.r67_8
theorem CX.r87_3 {μ : dtM} (C : CX μ) : dtR μ 87 3 = some 88 := C.rf (i := 98) rfl
theorem CX.g87_3 {μ : dtM} (C : CX μ) : opGR 0 3 μ 87 = some 88 := o_GR C.s87 C.r87_3
theorem CX.r87_4 {μ : dtM} (C : CX μ) : dtR μ 87 4 = some 89 := C.rf (i := 99) rfl
theorem CX.g87_4 {μ : dtM} (C : CX μ) : opGR 0 4 μ 87 = some 89 := o_GR C.s87 C.r87_4
theorem CX.r87_5 {μ : dtM} (C : CX μ) : dtR μ 87 5 = some 90 := C.rf (i := 100) rfl
theorem CX.g87_5 {μ : dtM} (C : CX μ) : opGR 0 5 μ 87 = some 90 := o_GR C.s87 C.r87_5
theorem CX.r87_6 {μ : dtM} (C : CX μ) : dtR μ 87 6 = some 91 := C.rf (i := 101) rfl
theorem CX.g87_6 {μ : dtM} (C : CX μ) : opGR 0 6 μ 87 = some 91 := o_GR C.s87 C.r87_6
theorem CX.r87_7 {μ : dtM} (C : CX μ) : dtR μ 87 7 = some 92 := C.rf (i := 102) rfl
theorem CX.g87_7 {μ : dtM} (C : CX μ) : opGR 0 7 μ 87 = some 92 := o_GR C.s87 C.r87_7
theorem CX.r87_8 {μ : dtM} (C : CX μ) : dtR μ 87 8 = some 93 := C.rf (i := 103) rfl
theorem CX.g87_8 {μ : dtM} (C : CX μ) : opGR 0 8 μ 87 = some 93 := o_GR C.s87 C.r87_8
theorem CX.r107_3 {μ : dtM} (C : CX μ) : dtR μ 107 3 = some 108 := C.rf (i := 104) rfl
theorem CX.g107_3 {μ : dtM} (C : CX μ) : opGR 0 3 μ 107 = some 108 := o_GR C.s107 C.r107_3
theorem CX.r107_4 {μ : dtM} (C : CX μ) : dtR μ 107 4 = some 109 := C.rf (i := 105) rfl
theorem CX.g107_4 {μ : dtM} (C : CX μ) : opGR 0 4 μ 107 = some 109 := o_GR C.s107 C.r107_4
theorem CX.r107_5 {μ : dtM} (C : CX μ) : dtR μ 107 5 = some 110 := C.rf (i := 106) rfl
theorem CX.g107_5 {μ : dtM} (C : CX μ) : opGR 0 5 μ 107 = some 110 := o_GR C.s107 C.r107_5
theorem CX.r107_6 {μ : dtM} (C : CX μ) : dtR μ 107 6 = some 111 := C.rf (i := 107) rfl
theorem CX.g107_6 {μ : dtM} (C : CX μ) : opGR 0 6 μ 107 = some 111 := o_GR C.s107 C.r107_6
theorem CX.r107_7 {μ : dtM} (C : CX μ) : dtR μ 107 7 = some 112 := C.rf (i := 108) rfl
theorem CX.g107_7 {μ : dtM} (C : CX μ) : opGR 0 7 μ 107 = some 112 := o_GR C.s107 C.r107_7
theorem CX.r107_8 {μ : dtM} (C : CX μ) : dtR μ 107 8 = some 113 := C.rf (i := 109) rfl
theorem CX.g107_8 {μ : dtM} (C : CX μ) : opGR 0 8 μ 107 = some 113 := o_GR C.s107 C.r107_8
theorem CX.r52_0 {μ : dtM} (C : CX μ) : dtR μ 52 0 = some 54 := C.rf (i := 110) rfl
theorem CX.r53_0 {μ : dtM} (C : CX μ) : dtR μ 53 0 = some 67 := C.rf (i := 111) rfl
theorem CX.r52_1 {μ : dtM} (C : CX μ) : dtR μ 52 1 = some 74 := C.rf (i := 112) rfl
theorem CX.r53_1 {μ : dtM} (C : CX μ) : dtR μ 53 1 = some 87 := C.rf (i := 113) rfl
theorem CX.r52_2 {μ : dtM} (C : CX μ) : dtR μ 52 2 = some 94 := C.rf (i := 114) rfl
theorem CX.r53_2 {μ : dtM} (C : CX μ) : dtR μ 53 2 = some 107 := C.rf (i := 115) rfl
theorem CX.r114_0 {μ : dtM} (C : CX μ) : dtR μ 114 0 = some 115 := C.rf (i := 116) rfl
theorem CX.g114_0 {μ : dtM} (C : CX μ) : opGR 4 0 μ 114 = some 115 := o_GR C.s114 C.r114_0
theorem CX.r114_1 {μ : dtM} (C : CX μ) : dtR μ 114 1 = some 117 := C.rf (i := 117) rfl
theorem CX.g114_1 {μ : dtM} (C : CX μ) : opGR 4 1 μ 114 = some 117 := o_GR C.s114 C.r114_1
theorem CX.r118_0 {μ : dtM} (C : CX μ) : dtR μ 118 0 = some 119 := C.rf (i := 118) rfl
theorem CX.g118_0 {μ : dtM} (C : CX μ) : opGR 1 0 μ 118 = some 119 := o_GR C.s118 C.r118_0
theorem CX.r118_1 {μ : dtM} (C : CX μ) : dtR μ 118 1 = some 121 := C.rf (i := 119) rfl
theorem CX.g118_1 {μ : dtM} (C : CX μ) : opGR 1 1 μ 118 = some 121 := o_GR C.s118 C.r118_1
theorem CX.r122_0 {μ : dtM} (C : CX μ) : dtR μ 122 0 = some 123 := C.rf (i := 120) rfl
theorem CX.g122_0 {μ : dtM} (C : CX μ) : opGR 2 0 μ 122 = some 123 := o_GR C.s122 C.r122_0
theorem CX.r124_0 {μ : dtM} (C : CX μ) : dtR μ 124 0 = some 125 := C.rf (i := 121) rfl
theorem CX.g124_0 {μ : dtM} (C : CX μ) : opGR 5 0 μ 124 = some 125 := o_GR C.s124 C.r124_0
theorem CX.r124_2 {μ : dtM} (C : CX μ) : dtR μ 124 2 = some 126 := C.rf (i := 122) rfl
theorem CX.g124_2 {μ : dtM} (C : CX μ) : opGR 5 2 μ 124 = some 126 := o_GR C.s124 C.r124_2
theorem CX.r124_3 {μ : dtM} (C : CX μ) : dtR μ 124 3 = some 127 := C.rf (i := 123) rfl
theorem CX.g124_3 {μ : dtM} (C : CX μ) : opGR 5 3 μ 124 = some 127 := o_GR C.s124 C.r124_3
theorem CX.r128_0 {μ : dtM} (C : CX μ) : dtR μ 128 0 = some 129 := C.rf (i := 124) rfl
theorem CX.g128_0 {μ : dtM} (C : CX μ) : opGR 10 0 μ 128 = some 129 := o_GR C.s128 C.r128_0
theorem CX.r130_0 {μ : dtM} (C : CX μ) : dtR μ 130 0 = some 131 := C.rf (i := 125) rfl
theorem CX.g130_0 {μ : dtM} (C : CX μ) : opGR 6 0 μ 130 = some 131 := o_GR C.s130 C.r130_0
theorem CX.r133_0 {μ : dtM} (C : CX μ) : dtR μ 133 0 = some 134 := C.rf (i := 126) rfl
theorem CX.g133_0 {μ : dtM} (C : CX μ) : opGR 12 0 μ 133 = some 134 := o_GR C.s133 C.r133_0
theorem CX.r133_1 {μ : dtM} (C : CX μ) : dtR μ 133 1 = some 135 := C.rf (i := 127) rfl
theorem CX.g133_1 {μ : dtM} (C : CX μ) : opGR 12 1 μ 133 = some 135 := o_GR C.s133 C.r133_1
theorem CX.r133_5 {μ : dtM} (C : CX μ) : dtR μ 133 5 = some 136 := C.rf (i := 128) rfl
theorem CX.g133_5 {μ : dtM} (C : CX μ) : opGR 12 5 μ 133 = some 136 := o_GR C.s133 C.r133_5
theorem CX.r133_6 {μ : dtM} (C : CX μ) : dtR μ 133 6 = some 137 := C.rf (i := 129) rfl
theorem CX.g133_6 {μ : dtM} (C : CX μ) : opGR 12 6 μ 133 = some 137 := o_GR C.s133 C.r133_6
theorem CX.r133_7 {μ : dtM} (C : CX μ) : dtR μ 133 7 = some 138 := C.rf (i := 130) rfl
theorem CX.g133_7 {μ : dtM} (C : CX μ) : opGR 12 7 μ 133 = some 138 := o_GR C.s133 C.r133_7
theorem CX.r133_8 {μ : dtM} (C : CX μ) : dtR μ 133 8 = some 139 := C.rf (i := 131) rfl
theorem CX.g133_8 {μ : dtM} (C : CX μ) : opGR 12 8 μ 133 = some 139 := o_GR C.s133 C.r133_8
theorem CX.r133_9 {μ : dtM} (C : CX μ) : dtR μ 133 9 = some 140 := C.rf (i := 132) rfl
theorem CX.g133_9 {μ : dtM} (C : CX μ) : opGR 12 9 μ 133 = some 140 := o_GR C.s133 C.r133_9
theorem CX.r133_21 {μ : dtM} (C : CX μ) : dtR μ 133 21 = some 141 := C.rf (i := 133) rfl
theorem CX.g133_21 {μ : dtM} (C : CX μ) : opGR 12 21 μ 133 = some 141 := o_GR C.s133 C.r133_21
theorem CX.r133_24 {μ : dtM} (C : CX μ) : dtR μ 133 24 = some 142 := C.rf (i := 134) rfl
theorem CX.g133_24 {μ : dtM} (C : CX μ) : opGR 12 24 μ 133 = some 142 := o_GR C.s133 C.r133_24
theorem CX.r133_25 {μ : dtM} (C : CX μ) : dtR μ 133 25 = some 143 := C.rf (i := 135) rfl
theorem CX.g133_25 {μ : dtM} (C : CX μ) : opGR 12 25 μ 133 = some 143 := o_GR C.s133 C.r133_25
theorem CX.r133_26 {μ : dtM} (C : CX μ) : dtR μ 133 26 = some 144 := C.rf (i := 136) rfl
theorem CX.g133_26 {μ : dtM} (C : CX μ) : opGR 12 26 μ 133 = some 144 := o_GR C.s133 C.r133_26
theorem CX.r133_28 {μ : dtM} (C : CX μ) : dtR μ 133 28 = some 145 := C.rf (i := 137) rfl
theorem CX.g133_28 {μ : dtM} (C : CX μ) : opGR 12 28 μ 133 = some 145 := o_GR C.s133 C.r133_28
theorem CX.r133_29 {μ : dtM} (C : CX μ) : dtR μ 133 29 = some 146 := C.rf (i := 138) rfl
theorem CX.g133_29 {μ : dtM} (C : CX μ) : opGR 12 29 μ 133 = some 146 := o_GR C.s133 C.r133_29
theorem CX.r133_30 {μ : dtM} (C : CX μ) : dtR μ 133 30 = some 147 := C.rf (i := 139) rfl
theorem CX.g133_30 {μ : dtM} (C : CX μ) : opGR 12 30 μ 133 = some 147 := o_GR C.s133 C.r133_30
theorem CX.r133_31 {μ : dtM} (C : CX μ) : dtR μ 133 31 = some 148 := C.rf (i := 140) rfl
theorem CX.g133_31 {μ : dtM} (C : CX μ) : opGR 12 31 μ 133 = some 148 := o_GR C.s133 C.r133_31
theorem CX.r133_32 {μ : dtM} (C : CX μ) : dtR μ 133 32 = some 149 := C.rf (i := 141) rfl
theorem CX.g133_32 {μ : dtM} (C : CX μ) : opGR 12 32 μ 133 = some 149 := o_GR C.s133 C.r133_32
theorem CX.r133_33 {μ : dtM} (C : CX μ) : dtR μ 133 33 = some 150 := C.rf (i := 142) rfl
theorem CX.g133_33 {μ : dtM} (C : CX μ) : opGR 12 33 μ 133 = some 150 := o_GR C.s133 C.r133_33
theorem CX.r133_36 {μ : dtM} (C : CX μ) : dtR μ 133 36 = some 151 := C.rf (i := 143) rfl
theorem CX.g133_36 {μ : dtM} (C : CX μ) : opGR 12 36 μ 133 = some 151 := o_GR C.s133 C.r133_36
theorem CX.r133_37 {μ : dtM} (C : CX μ) : dtR μ 133 37 = some 152 := C.rf (i := 144) rfl
theorem CX.g133_37 {μ : dtM} (C : CX μ) : opGR 12 37 μ 133 = some 152 := o_GR C.s133 C.r133_37
theorem CX.r133_38 {μ : dtM} (C : CX μ) : dtR μ 133 38 = some 153 := C.rf (i := 145) rfl
theorem CX.g133_38 {μ : dtM} (C : CX μ) : opGR 12 38 μ 133 = some 153 := o_GR C.s133 C.r133_38
theorem CX.pSh12 {μ : dtM} (C : CX μ) : pSh μ 12 := ⟨⟨C.s12, C.s13, C.s14⟩, ⟨C.s15, C.s16, C.s17⟩, ⟨C.s18, C.s19⟩, ⟨C.s20, C.s21, C.s22, C.s23⟩, C.s24, ⟨C.r12_7, C.r12_8, C.r12_9, C.r12_10, C.r12_11, C.r12_12, C.r12_13, C.r12_14, C.r12_15, C.r12_16, C.r12_17, C.r12_18⟩⟩
theorem CX.pSh25 {μ : dtM} (C : CX μ) : pSh μ 25 := ⟨⟨C.s25, C.s26, C.s27⟩, ⟨C.s28, C.s29, C.s30⟩, ⟨C.s31, C.s32⟩, ⟨C.s33, C.s34, C.s35, C.s36⟩, C.s37, ⟨C.r25_7, C.r25_8, C.r25_9, C.r25_10, C.r25_11, C.r25_12, C.r25_13, C.r25_14, C.r25_15, C.r25_16, C.r25_17, C.r25_18⟩⟩
theorem CX.pSh54 {μ : dtM} (C : CX μ) : pSh μ 54 := ⟨⟨C.s54, C.s55, C.s56⟩, ⟨C.s57, C.s58, C.s59⟩, ⟨C.s60, C.s61⟩, ⟨C.s62, C.s63, C.s64, C.s65⟩, C.s66, ⟨C.r54_7, C.r54_8, C.r54_9, C.r54_10, C.r54_11, C.r54_12, C.r54_13, C.r54_14, C.r54_15, C.r54_16, C.r54_17, C.r54_18⟩⟩
theorem CX.pSh74 {μ : dtM} (C : CX μ) : pSh μ 74 := ⟨⟨C.s74, C.s75, C.s76⟩, ⟨C.s77, C.s78, C.s79⟩, ⟨C.s80, C.s81⟩, ⟨C.s82, C.s83, C.s84, C.s85⟩, C.s86, ⟨C.r74_7, C.r74_8, C.r74_9, C.r74_10, C.r74_11, C.r74_12, C.r74_13, C.r74_14, C.r74_15, C.r74_16, C.r74_17, C.r74_18⟩⟩
theorem CX.pSh94 {μ : dtM} (C : CX μ) : pSh μ 94 := ⟨⟨C.s94, C.s95, C.s96⟩, ⟨C.s97, C.s98, C.s99⟩, ⟨C.s100, C.s101⟩, ⟨C.s102, C.s103, C.s104, C.s105⟩, C.s106, ⟨C.r94_7, C.r94_8, C.r94_9, C.r94_10, C.r94_11, C.r94_12, C.r94_13, C.r94_14, C.r94_15, C.r94_16, C.r94_17, C.r94_18⟩⟩
def dSh (μ : dtM) (g : Nat) : Prop := dtS μ g = (0, 0) ∧ (∀ k, k < 6 → dtS μ (g + 1 + k) = (1, 60)) ∧ ∀ k, k < 6 → dtR μ g (3 + k) = some (g + 1 + k)
theorem CX.dSh38 {μ : dtM} (C : CX μ) : dSh μ 38 := ⟨C.s38, fun k hk => match k, hk with
  | 0, _ => C.s39
  | 1, _ => C.s40
  | 2, _ => C.s41
  | 3, _ => C.s42
  | 4, _ => C.s43
  | 5, _ => C.s44, fun k hk => match k, hk with
  | 0, _ => C.r38_3
  | 1, _ => C.r38_4
  | 2, _ => C.r38_5
  | 3, _ => C.r38_6
  | 4, _ => C.r38_7
  | 5, _ => C.r38_8⟩
theorem CX.dSh45 {μ : dtM} (C : CX μ) : dSh μ 45 := ⟨C.s45, fun k hk => match k, hk with
  | 0, _ => C.s46
  | 1, _ => C.s47
  | 2, _ => C.s48
  | 3, _ => C.s49
  | 4, _ => C.s50
  | 5, _ => C.s51, fun k hk => match k, hk with
  | 0, _ => C.r45_3
  | 1, _ => C.r45_4
  | 2, _ => C.r45_5
  | 3, _ => C.r45_6
  | 4, _ => C.r45_7
  | 5, _ => C.r45_8⟩
theorem CX.dSh67 {μ : dtM} (C : CX μ) : dSh μ 67 := ⟨C.s67, fun k hk => match k, hk with
  | 0, _ => C.s68
  | 1, _ => C.s69
  | 2, _ => C.s70
  | 3, _ => C.s71
  | 4, _ => C.s72
  | 5, _ => C.s73, fun k hk => match k, hk with
  | 0, _ => C.r67_3
  | 1, _ => C.r67_4
  | 2, _ => C.r67_5
  | 3, _ => C.r67_6
  | 4, _ => C.r67_7
  | 5, _ => C.r67_8⟩
theorem CX.dSh87 {μ : dtM} (C : CX μ) : dSh μ 87 := ⟨C.s87, fun k hk => match k, hk with
  | 0, _ => C.s88
  | 1, _ => C.s89
  | 2, _ => C.s90
  | 3, _ => C.s91
  | 4, _ => C.s92
  | 5, _ => C.s93, fun k hk => match k, hk with
  | 0, _ => C.r87_3
  | 1, _ => C.r87_4
  | 2, _ => C.r87_5
  | 3, _ => C.r87_6
  | 4, _ => C.r87_7
  | 5, _ => C.r87_8⟩
theorem CX.dSh107 {μ : dtM} (C : CX μ) : dSh μ 107 := ⟨C.s107, fun k hk => match k, hk with
  | 0, _ => C.s108
  | 1, _ => C.s109
  | 2, _ => C.s110
  | 3, _ => C.s111
  | 4, _ => C.s112
  | 5, _ => C.s113, fun k hk => match k, hk with
  | 0, _ => C.r107_3
  | 1, _ => C.r107_4
  | 2, _ => C.r107_5
  | 3, _ => C.r107_6
  | 4, _ => C.r107_7
  | 5, _ => C.r107_8⟩
theorem CX.mSh {μ : dtM} (C : CX μ) : mSh μ := ⟨C.s133, C.r133_0, C.s134, C.r133_1, C.s135⟩
theorem CX.hHr {μ : dtM} (C : CX μ) : hHr μ := ⟨C.s122, C.r122_0, C.s123⟩
theorem CX.mLs {μ : dtM} (C : CX μ) : mLs μ := ⟨C.r133_24, C.s142⟩
theorem CX.tr {μ : dtM} (C : CX μ) {i : Nat} (h : i < 4) : dtS μ (2 + 2 * i) = (0, 9) ∧ dtS μ (3 + 2 * i) = (3, 60) ∧ dtR μ 1 i = some (2 + 2 * i) ∧ dtR μ (2 + 2 * i) 3 = some (3 + 2 * i) := match i, h with
  | 0, _ => ⟨C.s2, C.s3, C.r1_0, C.r2_3⟩
  | 1, _ => ⟨C.s4, C.s5, C.r1_1, C.r4_3⟩
  | 2, _ => ⟨C.s6, C.s7, C.r1_2, C.r6_3⟩
  | 3, _ => ⟨C.s8, C.s9, C.r1_3, C.r8_3⟩
theorem CX.mk {μ : dtM} (C : CX μ) {i : Nat} (h : i < 3) : pSh μ (54 + 20 * i) ∧ dSh μ (67 + 20 * i) ∧ dtR μ 52 i = some (54 + 20 * i) ∧ dtR μ 53 i = some (67 + 20 * i) := match i, h with
  | 0, _ => ⟨C.pSh54, C.dSh67, C.r52_0, C.r53_0⟩
  | 1, _ => ⟨C.pSh74, C.dSh87, C.r52_1, C.r53_1⟩
  | 2, _ => ⟨C.pSh94, C.dSh107, C.r52_2, C.r53_2⟩
