def zin (n : Nat) (live : List Nat) (k : zT) (X : Nat → zV) (L : Nat) : Prop := ∀ (u v : Nat) (vs st : List Value) (M : zM), zb n live k u v vs st M → X L u v vs st M
def zsh0 : List (Nat × Nat) := [(7, 0), (7, 0), (7, 0), (7, 0), (7, 0), (7, 0), (7, 0), (7, 0), (7, 0), (7, 0), (7, 0), (7, 0), (7, 0), (7, 0), (7, 0), (7, 0), (0, 11), (0, 1), (2, 64), (2, 64), (2, 128), (2, 512), (2, 64), (2, 64), (4, 8180), (0, 9), (1, 384), (0, 6), (0, 10), (0, 7), (4, 104), (0, 8), (1, 1920), (0, 3), (6, 6), (0, 4), (0, 0), (1, 64), (2, 13), (2, 2), (1, 608), (0, 5), (1, 384), (1, 4808), (2, 3005), (0, 4), (0, 0), (1, 64), (2, 13), (2, 2), (1, 608), (0, 5), (1, 384), (1, 4808), (2, 3005), (0, 13), (3, 8200), (1, 82938), (1, 2), (1, 1202), (1, 1202), (1, 1202), (1, 1202), (1, 1202), (1, 1202), (1, 414), (1, 1980), (1, 6), (1, 6), (1, 6), (1, 100), (0, 12), (5, 6), (1, 6), (1, 512), (1, 128), (1, 64), (1, 64), (1, 64), (1, 64), (1, 64), (2, 1)]
def zrf0 : List (Nat × Nat × Nat) := [(16, 0, 24), (16, 1, 27), (16, 2, 25), (16, 3, 29), (16, 4, 31), (16, 5, 33), (17, 0, 18), (17, 1, 19), (17, 2, 20), (17, 3, 21), (17, 4, 22), (17, 5, 23), (25, 0, 26), (27, 0, 24), (27, 1, 25), (27, 2, 28), (29, 0, 30), (31, 0, 32), (33, 0, 17), (33, 1, 34), (35, 0, 36), (35, 1, 41), (35, 2, 42), (35, 5, 43), (35, 6, 44), (36, 0, 17), (36, 1, 37), (36, 2, 38), (36, 3, 39), (36, 10, 40), (41, 0, 36), (41, 1, 17), (45, 0, 46), (45, 1, 51), (45, 2, 52), (45, 5, 53), (45, 6, 54), (46, 0, 17), (46, 1, 47), (46, 2, 48), (46, 3, 49), (46, 10, 50), (51, 0, 46), (51, 1, 17), (55, 1, 56), (55, 8, 57), (55, 9, 58), (55, 10, 59), (55, 11, 60), (55, 12, 61), (55, 13, 62), (55, 14, 63), (55, 15, 64), (55, 16, 65), (55, 17, 66), (55, 18, 67), (55, 19, 68), (55, 20, 69), (55, 23, 70), (55, 25, 71), (71, 2, 72), (71, 3, 73), (71, 9, 74), (71, 10, 75), (71, 12, 76), (71, 13, 77), (71, 14, 78), (71, 15, 79), (71, 16, 80)]
/-- the cells that the constructors made stand as they were made: shapes, and references that never change -/
def zFx (q : (Nat → Nat → Option Nat) × List (Nat × Nat)) : Prop := (∀ (k : Nat) (sh : Nat × Nat), zsh0[k]? = some sh → q.2[k]? = some sh) ∧ ∀ t ∈ zrf0, q.1 t.1 t.2.1 = some t.2.2
def zFix (M : zM) : Prop := zFx M.2.2
def zWd (M : zM) (g : Nat) : Prop := zFix M ∧ (g = 35 ∨ g = 45)
theorem fxs_16 {M : zM} (h : zFix M) : zsh M 16 = some (0, 11) := h.1 16 _ rfl
theorem fxs_17 {M : zM} (h : zFix M) : zsh M 17 = some (0, 1) := h.1 17 _ rfl
theorem fxs_18 {M : zM} (h : zFix M) : zsh M 18 = some (2, 64) := h.1 18 _ rfl
theorem fxs_19 {M : zM} (h : zFix M) : zsh M 19 = some (2, 64) := h.1 19 _ rfl
theorem fxs_20 {M : zM} (h : zFix M) : zsh M 20 = some (2, 128) := h.1 20 _ rfl
theorem fxs_21 {M : zM} (h : zFix M) : zsh M 21 = some (2, 512) := h.1 21 _ rfl
theorem fxs_22 {M : zM} (h : zFix M) : zsh M 22 = some (2, 64) := h.1 22 _ rfl
theorem fxs_23 {M : zM} (h : zFix M) : zsh M 23 = some (2, 64) := h.1 23 _ rfl
theorem fxs_24 {M : zM} (h : zFix M) : zsh M 24 = some (4, 8180) := h.1 24 _ rfl
theorem fxs_25 {M : zM} (h : zFix M) : zsh M 25 = some (0, 9) := h.1 25 _ rfl
theorem fxs_26 {M : zM} (h : zFix M) : zsh M 26 = some (1, 384) := h.1 26 _ rfl
theorem fxs_27 {M : zM} (h : zFix M) : zsh M 27 = some (0, 6) := h.1 27 _ rfl
theorem fxs_28 {M : zM} (h : zFix M) : zsh M 28 = some (0, 10) := h.1 28 _ rfl
theorem fxs_29 {M : zM} (h : zFix M) : zsh M 29 = some (0, 7) := h.1 29 _ rfl
theorem fxs_30 {M : zM} (h : zFix M) : zsh M 30 = some (4, 104) := h.1 30 _ rfl
theorem fxs_31 {M : zM} (h : zFix M) : zsh M 31 = some (0, 8) := h.1 31 _ rfl
theorem fxs_32 {M : zM} (h : zFix M) : zsh M 32 = some (1, 1920) := h.1 32 _ rfl
theorem fxs_33 {M : zM} (h : zFix M) : zsh M 33 = some (0, 3) := h.1 33 _ rfl
theorem fxs_34 {M : zM} (h : zFix M) : zsh M 34 = some (6, 6) := h.1 34 _ rfl
theorem fxs_35 {M : zM} (h : zFix M) : zsh M 35 = some (0, 4) := h.1 35 _ rfl
theorem fxs_36 {M : zM} (h : zFix M) : zsh M 36 = some (0, 0) := h.1 36 _ rfl
theorem fxs_37 {M : zM} (h : zFix M) : zsh M 37 = some (1, 64) := h.1 37 _ rfl
theorem fxs_38 {M : zM} (h : zFix M) : zsh M 38 = some (2, 13) := h.1 38 _ rfl
theorem fxs_39 {M : zM} (h : zFix M) : zsh M 39 = some (2, 2) := h.1 39 _ rfl
theorem fxs_40 {M : zM} (h : zFix M) : zsh M 40 = some (1, 608) := h.1 40 _ rfl
theorem fxs_41 {M : zM} (h : zFix M) : zsh M 41 = some (0, 5) := h.1 41 _ rfl
theorem fxs_42 {M : zM} (h : zFix M) : zsh M 42 = some (1, 384) := h.1 42 _ rfl
theorem fxs_43 {M : zM} (h : zFix M) : zsh M 43 = some (1, 4808) := h.1 43 _ rfl
theorem fxs_44 {M : zM} (h : zFix M) : zsh M 44 = some (2, 3005) := h.1 44 _ rfl
theorem fxs_45 {M : zM} (h : zFix M) : zsh M 45 = some (0, 4) := h.1 45 _ rfl
theorem fxs_46 {M : zM} (h : zFix M) : zsh M 46 = some (0, 0) := h.1 46 _ rfl
theorem fxs_47 {M : zM} (h : zFix M) : zsh M 47 = some (1, 64) := h.1 47 _ rfl
theorem fxs_48 {M : zM} (h : zFix M) : zsh M 48 = some (2, 13) := h.1 48 _ rfl
theorem fxs_49 {M : zM} (h : zFix M) : zsh M 49 = some (2, 2) := h.1 49 _ rfl
theorem fxs_50 {M : zM} (h : zFix M) : zsh M 50 = some (1, 608) := h.1 50 _ rfl
theorem fxs_51 {M : zM} (h : zFix M) : zsh M 51 = some (0, 5) := h.1 51 _ rfl
theorem fxs_52 {M : zM} (h : zFix M) : zsh M 52 = some (1, 384) := h.1 52 _ rfl
theorem fxs_53 {M : zM} (h : zFix M) : zsh M 53 = some (1, 4808) := h.1 53 _ rfl
theorem fxs_54 {M : zM} (h : zFix M) : zsh M 54 = some (2, 3005) := h.1 54 _ rfl
theorem fxs_55 {M : zM} (h : zFix M) : zsh M 55 = some (0, 13) := h.1 55 _ rfl
theorem fxs_56 {M : zM} (h : zFix M) : zsh M 56 = some (3, 8200) := h.1 56 _ rfl
theorem fxs_57 {M : zM} (h : zFix M) : zsh M 57 = some (1, 82938) := h.1 57 _ rfl
theorem fxs_58 {M : zM} (h : zFix M) : zsh M 58 = some (1, 2) := h.1 58 _ rfl
theorem fxs_59 {M : zM} (h : zFix M) : zsh M 59 = some (1, 1202) := h.1 59 _ rfl
theorem fxs_60 {M : zM} (h : zFix M) : zsh M 60 = some (1, 1202) := h.1 60 _ rfl
theorem fxs_61 {M : zM} (h : zFix M) : zsh M 61 = some (1, 1202) := h.1 61 _ rfl
theorem fxs_62 {M : zM} (h : zFix M) : zsh M 62 = some (1, 1202) := h.1 62 _ rfl
theorem fxs_63 {M : zM} (h : zFix M) : zsh M 63 = some (1, 1202) := h.1 63 _ rfl
theorem fxs_64 {M : zM} (h : zFix M) : zsh M 64 = some (1, 1202) := h.1 64 _ rfl
theorem fxs_65 {M : zM} (h : zFix M) : zsh M 65 = some (1, 414) := h.1 65 _ rfl
theorem fxs_66 {M : zM} (h : zFix M) : zsh M 66 = some (1, 1980) := h.1 66 _ rfl
theorem fxs_67 {M : zM} (h : zFix M) : zsh M 67 = some (1, 6) := h.1 67 _ rfl
theorem fxs_68 {M : zM} (h : zFix M) : zsh M 68 = some (1, 6) := h.1 68 _ rfl
theorem fxs_69 {M : zM} (h : zFix M) : zsh M 69 = some (1, 6) := h.1 69 _ rfl
theorem fxs_70 {M : zM} (h : zFix M) : zsh M 70 = some (1, 100) := h.1 70 _ rfl
theorem fxs_71 {M : zM} (h : zFix M) : zsh M 71 = some (0, 12) := h.1 71 _ rfl
theorem fxs_72 {M : zM} (h : zFix M) : zsh M 72 = some (5, 6) := h.1 72 _ rfl
theorem fxs_73 {M : zM} (h : zFix M) : zsh M 73 = some (1, 6) := h.1 73 _ rfl
theorem fxs_74 {M : zM} (h : zFix M) : zsh M 74 = some (1, 512) := h.1 74 _ rfl
theorem fxs_75 {M : zM} (h : zFix M) : zsh M 75 = some (1, 128) := h.1 75 _ rfl
theorem fxs_76 {M : zM} (h : zFix M) : zsh M 76 = some (1, 64) := h.1 76 _ rfl
theorem fxs_77 {M : zM} (h : zFix M) : zsh M 77 = some (1, 64) := h.1 77 _ rfl
theorem fxs_78 {M : zM} (h : zFix M) : zsh M 78 = some (1, 64) := h.1 78 _ rfl
theorem fxs_79 {M : zM} (h : zFix M) : zsh M 79 = some (1, 64) := h.1 79 _ rfl
theorem fxs_80 {M : zM} (h : zFix M) : zsh M 80 = some (1, 64) := h.1 80 _ rfl
theorem fxs_81 {M : zM} (h : zFix M) : zsh M 81 = some (2, 1) := h.1 81 _ rfl
theorem fxr_16_0 {M : zM} (h : zFix M) : M.2.2.1 16 0 = some 24 := h.2 (16, 0, 24) (by decide)
theorem fxr_16_1 {M : zM} (h : zFix M) : M.2.2.1 16 1 = some 27 := h.2 (16, 1, 27) (by decide)
theorem fxr_16_2 {M : zM} (h : zFix M) : M.2.2.1 16 2 = some 25 := h.2 (16, 2, 25) (by decide)
theorem fxr_16_3 {M : zM} (h : zFix M) : M.2.2.1 16 3 = some 29 := h.2 (16, 3, 29) (by decide)
theorem fxr_16_4 {M : zM} (h : zFix M) : M.2.2.1 16 4 = some 31 := h.2 (16, 4, 31) (by decide)
theorem fxr_16_5 {M : zM} (h : zFix M) : M.2.2.1 16 5 = some 33 := h.2 (16, 5, 33) (by decide)
theorem fxr_17_0 {M : zM} (h : zFix M) : M.2.2.1 17 0 = some 18 := h.2 (17, 0, 18) (by decide)
theorem fxr_17_1 {M : zM} (h : zFix M) : M.2.2.1 17 1 = some 19 := h.2 (17, 1, 19) (by decide)
theorem fxr_17_2 {M : zM} (h : zFix M) : M.2.2.1 17 2 = some 20 := h.2 (17, 2, 20) (by decide)
theorem fxr_17_3 {M : zM} (h : zFix M) : M.2.2.1 17 3 = some 21 := h.2 (17, 3, 21) (by decide)
theorem fxr_17_4 {M : zM} (h : zFix M) : M.2.2.1 17 4 = some 22 := h.2 (17, 4, 22) (by decide)
theorem fxr_17_5 {M : zM} (h : zFix M) : M.2.2.1 17 5 = some 23 := h.2 (17, 5, 23) (by decide)
theorem fxr_25_0 {M : zM} (h : zFix M) : M.2.2.1 25 0 = some 26 := h.2 (25, 0, 26) (by decide)
theorem fxr_27_0 {M : zM} (h : zFix M) : M.2.2.1 27 0 = some 24 := h.2 (27, 0, 24) (by decide)
theorem fxr_27_1 {M : zM} (h : zFix M) : M.2.2.1 27 1 = some 25 := h.2 (27, 1, 25) (by decide)
theorem fxr_27_2 {M : zM} (h : zFix M) : M.2.2.1 27 2 = some 28 := h.2 (27, 2, 28) (by decide)
theorem fxr_29_0 {M : zM} (h : zFix M) : M.2.2.1 29 0 = some 30 := h.2 (29, 0, 30) (by decide)
theorem fxr_31_0 {M : zM} (h : zFix M) : M.2.2.1 31 0 = some 32 := h.2 (31, 0, 32) (by decide)
theorem fxr_33_0 {M : zM} (h : zFix M) : M.2.2.1 33 0 = some 17 := h.2 (33, 0, 17) (by decide)
theorem fxr_33_1 {M : zM} (h : zFix M) : M.2.2.1 33 1 = some 34 := h.2 (33, 1, 34) (by decide)
theorem fxr_35_0 {M : zM} (h : zFix M) : M.2.2.1 35 0 = some 36 := h.2 (35, 0, 36) (by decide)
theorem fxr_35_1 {M : zM} (h : zFix M) : M.2.2.1 35 1 = some 41 := h.2 (35, 1, 41) (by decide)
theorem fxr_35_2 {M : zM} (h : zFix M) : M.2.2.1 35 2 = some 42 := h.2 (35, 2, 42) (by decide)
theorem fxr_35_5 {M : zM} (h : zFix M) : M.2.2.1 35 5 = some 43 := h.2 (35, 5, 43) (by decide)
theorem fxr_35_6 {M : zM} (h : zFix M) : M.2.2.1 35 6 = some 44 := h.2 (35, 6, 44) (by decide)
theorem fxr_36_0 {M : zM} (h : zFix M) : M.2.2.1 36 0 = some 17 := h.2 (36, 0, 17) (by decide)
theorem fxr_36_1 {M : zM} (h : zFix M) : M.2.2.1 36 1 = some 37 := h.2 (36, 1, 37) (by decide)
theorem fxr_36_2 {M : zM} (h : zFix M) : M.2.2.1 36 2 = some 38 := h.2 (36, 2, 38) (by decide)
theorem fxr_36_3 {M : zM} (h : zFix M) : M.2.2.1 36 3 = some 39 := h.2 (36, 3, 39) (by decide)
theorem fxr_36_10 {M : zM} (h : zFix M) : M.2.2.1 36 10 = some 40 := h.2 (36, 10, 40) (by decide)
theorem fxr_41_0 {M : zM} (h : zFix M) : M.2.2.1 41 0 = some 36 := h.2 (41, 0, 36) (by decide)
theorem fxr_41_1 {M : zM} (h : zFix M) : M.2.2.1 41 1 = some 17 := h.2 (41, 1, 17) (by decide)
theorem fxr_45_0 {M : zM} (h : zFix M) : M.2.2.1 45 0 = some 46 := h.2 (45, 0, 46) (by decide)
theorem fxr_45_1 {M : zM} (h : zFix M) : M.2.2.1 45 1 = some 51 := h.2 (45, 1, 51) (by decide)
theorem fxr_45_2 {M : zM} (h : zFix M) : M.2.2.1 45 2 = some 52 := h.2 (45, 2, 52) (by decide)
theorem fxr_45_5 {M : zM} (h : zFix M) : M.2.2.1 45 5 = some 53 := h.2 (45, 5, 53) (by decide)
theorem fxr_45_6 {M : zM} (h : zFix M) : M.2.2.1 45 6 = some 54 := h.2 (45, 6, 54) (by decide)
theorem fxr_46_0 {M : zM} (h : zFix M) : M.2.2.1 46 0 = some 17 := h.2 (46, 0, 17) (by decide)
theorem fxr_46_1 {M : zM} (h : zFix M) : M.2.2.1 46 1 = some 47 := h.2 (46, 1, 47) (by decide)
theorem fxr_46_2 {M : zM} (h : zFix M) : M.2.2.1 46 2 = some 48 := h.2 (46, 2, 48) (by decide)
theorem fxr_46_3 {M : zM} (h : zFix M) : M.2.2.1 46 3 = some 49 := h.2 (46, 3, 49) (by decide)
theorem fxr_46_10 {M : zM} (h : zFix M) : M.2.2.1 46 10 = some 50 := h.2 (46, 10, 50) (by decide)
theorem fxr_51_0 {M : zM} (h : zFix M) : M.2.2.1 51 0 = some 46 := h.2 (51, 0, 46) (by decide)
theorem fxr_51_1 {M : zM} (h : zFix M) : M.2.2.1 51 1 = some 17 := h.2 (51, 1, 17) (by decide)
theorem fxr_55_1 {M : zM} (h : zFix M) : M.2.2.1 55 1 = some 56 := h.2 (55, 1, 56) (by decide)
theorem fxr_55_8 {M : zM} (h : zFix M) : M.2.2.1 55 8 = some 57 := h.2 (55, 8, 57) (by decide)
theorem fxr_55_9 {M : zM} (h : zFix M) : M.2.2.1 55 9 = some 58 := h.2 (55, 9, 58) (by decide)
theorem fxr_55_10 {M : zM} (h : zFix M) : M.2.2.1 55 10 = some 59 := h.2 (55, 10, 59) (by decide)
theorem fxr_55_11 {M : zM} (h : zFix M) : M.2.2.1 55 11 = some 60 := h.2 (55, 11, 60) (by decide)
theorem fxr_55_12 {M : zM} (h : zFix M) : M.2.2.1 55 12 = some 61 := h.2 (55, 12, 61) (by decide)
theorem fxr_55_13 {M : zM} (h : zFix M) : M.2.2.1 55 13 = some 62 := h.2 (55, 13, 62) (by decide)
theorem fxr_55_14 {M : zM} (h : zFix M) : M.2.2.1 55 14 = some 63 := h.2 (55, 14, 63) (by decide)
theorem fxr_55_15 {M : zM} (h : zFix M) : M.2.2.1 55 15 = some 64 := h.2 (55, 15, 64) (by decide)
theorem fxr_55_16 {M : zM} (h : zFix M) : M.2.2.1 55 16 = some 65 := h.2 (55, 16, 65) (by decide)
theorem fxr_55_17 {M : zM} (h : zFix M) : M.2.2.1 55 17 = some 66 := h.2 (55, 17, 66) (by decide)
theorem fxr_55_18 {M : zM} (h : zFix M) : M.2.2.1 55 18 = some 67 := h.2 (55, 18, 67) (by decide)
theorem fxr_55_19 {M : zM} (h : zFix M) : M.2.2.1 55 19 = some 68 := h.2 (55, 19, 68) (by decide)
theorem fxr_55_20 {M : zM} (h : zFix M) : M.2.2.1 55 20 = some 69 := h.2 (55, 20, 69) (by decide)
theorem fxr_55_23 {M : zM} (h : zFix M) : M.2.2.1 55 23 = some 70 := h.2 (55, 23, 70) (by decide)
theorem fxr_55_25 {M : zM} (h : zFix M) : M.2.2.1 55 25 = some 71 := h.2 (55, 25, 71) (by decide)
theorem fxr_71_2 {M : zM} (h : zFix M) : M.2.2.1 71 2 = some 72 := h.2 (71, 2, 72) (by decide)
theorem fxr_71_3 {M : zM} (h : zFix M) : M.2.2.1 71 3 = some 73 := h.2 (71, 3, 73) (by decide)
theorem fxr_71_9 {M : zM} (h : zFix M) : M.2.2.1 71 9 = some 74 := h.2 (71, 9, 74) (by decide)
theorem fxr_71_10 {M : zM} (h : zFix M) : M.2.2.1 71 10 = some 75 := h.2 (71, 10, 75) (by decide)
theorem fxr_71_12 {M : zM} (h : zFix M) : M.2.2.1 71 12 = some 76 := h.2 (71, 12, 76) (by decide)
theorem fxr_71_13 {M : zM} (h : zFix M) : M.2.2.1 71 13 = some 77 := h.2 (71, 13, 77) (by decide)
theorem fxr_71_14 {M : zM} (h : zFix M) : M.2.2.1 71 14 = some 78 := h.2 (71, 14, 78) (by decide)
theorem fxr_71_15 {M : zM} (h : zFix M) : M.2.2.1 71 15 = some 79 := h.2 (71, 15, 79) (by decide)
theorem fxr_71_16 {M : zM} (h : zFix M) : M.2.2.1 71 16 = some 80 := h.2 (71, 16, 80) (by decide)
theorem fgs_0 {M : zM} {g : Nat} (h : zWd M g) : zsh M g = some (0, 4) := by
  rcases h with ⟨h, rfl | rfl⟩
  · exact fxs_35 h
  · exact fxs_45 h
theorem fgs_1 {M : zM} {g : Nat} (h : zWd M g) : zsh M (g + 1) = some (0, 0) := by
  rcases h with ⟨h, rfl | rfl⟩
  · exact fxs_36 h
  · exact fxs_46 h
theorem fgs_2 {M : zM} {g : Nat} (h : zWd M g) : zsh M (g + 2) = some (1, 64) := by
  rcases h with ⟨h, rfl | rfl⟩
  · exact fxs_37 h
  · exact fxs_47 h
theorem fgs_3 {M : zM} {g : Nat} (h : zWd M g) : zsh M (g + 3) = some (2, 13) := by
  rcases h with ⟨h, rfl | rfl⟩
  · exact fxs_38 h
  · exact fxs_48 h
theorem fgs_4 {M : zM} {g : Nat} (h : zWd M g) : zsh M (g + 4) = some (2, 2) := by
  rcases h with ⟨h, rfl | rfl⟩
  · exact fxs_39 h
  · exact fxs_49 h
theorem fgs_5 {M : zM} {g : Nat} (h : zWd M g) : zsh M (g + 5) = some (1, 608) := by
  rcases h with ⟨h, rfl | rfl⟩
  · exact fxs_40 h
  · exact fxs_50 h
theorem fgs_6 {M : zM} {g : Nat} (h : zWd M g) : zsh M (g + 6) = some (0, 5) := by
  rcases h with ⟨h, rfl | rfl⟩
  · exact fxs_41 h
  · exact fxs_51 h
theorem fgs_7 {M : zM} {g : Nat} (h : zWd M g) : zsh M (g + 7) = some (1, 384) := by
  rcases h with ⟨h, rfl | rfl⟩
  · exact fxs_42 h
  · exact fxs_52 h
theorem fgs_8 {M : zM} {g : Nat} (h : zWd M g) : zsh M (g + 8) = some (1, 4808) := by
  rcases h with ⟨h, rfl | rfl⟩
  · exact fxs_43 h
  · exact fxs_53 h
theorem fgs_9 {M : zM} {g : Nat} (h : zWd M g) : zsh M (g + 9) = some (2, 3005) := by
  rcases h with ⟨h, rfl | rfl⟩
  · exact fxs_44 h
  · exact fxs_54 h
theorem zFix.r {M : zM} {j : Nat} {v : Option Nat} (h : zFix M) (hj : j = 6 ∨ j = 7) : zFix (zsR M 16 j v) := by
  refine ⟨h.1, fun t ht => ?_⟩
  have h1 := h.2 t ht
  show z2 M.2.2.1 16 j v t.1 t.2.1 = some t.2.2
  unfold z2
  by_cases h2 : t.1 = 16
  · rw [if_pos h2]
    by_cases h3 : t.2.1 = j
    · exfalso
      have : ∀ t ∈ zrf0, t.1 = 16 → t.2.1 ≠ 6 ∧ t.2.1 ≠ 7 := by decide
      have := this t ht h2
      omega
    · rw [if_neg h3]; exact h1
  · rw [if_neg h2]; exact h1
theorem zWd.r6 {M : zM} {g : Nat} {v : Option Nat} (h : zWd M g) : zWd (zsR M 16 6 v) g := ⟨h.1.r (Or.inl rfl), h.2⟩
theorem zWd.r7 {M : zM} {g : Nat} {v : Option Nat} (h : zWd M g) : zWd (zsR M 16 7 v) g := ⟨h.1.r (Or.inr rfl), h.2⟩
theorem fgr_0_0 {M : zM} {g : Nat} (h : zWd M g) : M.2.2.1 g 0 = some (g + 1) := by
  rcases h with ⟨h, rfl | rfl⟩
  · exact fxr_35_0 h
  · exact fxr_45_0 h
theorem fgr_0_1 {M : zM} {g : Nat} (h : zWd M g) : M.2.2.1 g 1 = some (g + 6) := by
  rcases h with ⟨h, rfl | rfl⟩
  · exact fxr_35_1 h
  · exact fxr_45_1 h
theorem fgr_0_2 {M : zM} {g : Nat} (h : zWd M g) : M.2.2.1 g 2 = some (g + 7) := by
  rcases h with ⟨h, rfl | rfl⟩
  · exact fxr_35_2 h
  · exact fxr_45_2 h
theorem fgr_0_5 {M : zM} {g : Nat} (h : zWd M g) : M.2.2.1 g 5 = some (g + 8) := by
  rcases h with ⟨h, rfl | rfl⟩
  · exact fxr_35_5 h
  · exact fxr_45_5 h
theorem fgr_0_6 {M : zM} {g : Nat} (h : zWd M g) : M.2.2.1 g 6 = some (g + 9) := by
  rcases h with ⟨h, rfl | rfl⟩
  · exact fxr_35_6 h
  · exact fxr_45_6 h
theorem fgr_1_0 {M : zM} {g : Nat} (h : zWd M g) : M.2.2.1 (g + 1) 0 = some 17 := by
  rcases h with ⟨h, rfl | rfl⟩
  · exact fxr_36_0 h
  · exact fxr_46_0 h
theorem fgr_1_1 {M : zM} {g : Nat} (h : zWd M g) : M.2.2.1 (g + 1) 1 = some (g + 2) := by
  rcases h with ⟨h, rfl | rfl⟩
  · exact fxr_36_1 h
  · exact fxr_46_1 h
theorem fgr_1_2 {M : zM} {g : Nat} (h : zWd M g) : M.2.2.1 (g + 1) 2 = some (g + 3) := by
  rcases h with ⟨h, rfl | rfl⟩
  · exact fxr_36_2 h
  · exact fxr_46_2 h
theorem fgr_1_3 {M : zM} {g : Nat} (h : zWd M g) : M.2.2.1 (g + 1) 3 = some (g + 4) := by
  rcases h with ⟨h, rfl | rfl⟩
  · exact fxr_36_3 h
  · exact fxr_46_3 h
theorem fgr_1_10 {M : zM} {g : Nat} (h : zWd M g) : M.2.2.1 (g + 1) 10 = some (g + 5) := by
  rcases h with ⟨h, rfl | rfl⟩
  · exact fxr_36_10 h
  · exact fxr_46_10 h
theorem fgr_6_0 {M : zM} {g : Nat} (h : zWd M g) : M.2.2.1 (g + 6) 0 = some (g + 1) := by
  rcases h with ⟨h, rfl | rfl⟩
  · exact fxr_41_0 h
  · exact fxr_51_0 h
theorem fgr_6_1 {M : zM} {g : Nat} (h : zWd M g) : M.2.2.1 (g + 6) 1 = some 17 := by
  rcases h with ⟨h, rfl | rfl⟩
  · exact fxr_41_1 h
  · exact fxr_51_1 h
