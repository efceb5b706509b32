/-! shapes of the objects by number (those made by the two constructors, then three for each code), kinds of fields, references that stay -/
def pd_shL : List (Nat × Nat) := [(11, 14), (17, 16), (18, 12), (2, 2), (13, 200), (13, 1442), (3, 4), (13, 64), (13, 64), (13, 1442), (13, 1442), (1, 5), (13, 128), (13, 128), (13, 64), (13, 3296), (10, 3), (19, 9), (9, 4), (14, 200), (9, 4), (14, 200), (9, 4), (14, 200), (9, 4), (14, 200), (9, 4), (14, 200), (9, 4), (14, 200), (9, 4), (14, 200), (9, 4), (14, 200), (9, 4), (14, 200), (5, 8), (13, 512), (13, 512), (13, 64), (13, 64), (14, 102400), (14, 13184), (6, 6), (13, 12800), (13, 64), (13, 64), (13, 200), (13, 200), (8, 8), (13, 200), (13, 200), (13, 200), (13, 200), (7, 6), (13, 64), (13, 64), (13, 64), (16, 1984), (13, 200), (4, 2), (15, 600), (4, 2), (15, 600), (4, 2), (15, 600), (4, 2), (15, 600), (4, 2), (15, 600), (4, 2), (15, 600), (4, 2), (15, 600), (4, 2), (15, 600), (4, 2), (15, 600), (4, 2), (15, 600), (4, 2), (15, 600), (4, 2), (15, 600), (4, 2), (15, 600), (4, 2), (15, 600), (4, 2), (15, 600), (4, 2), (15, 600), (12, 44), (13, 16), (13, 9600), (13, 64), (13, 64), (13, 12), (13, 12), (13, 12), (13, 12), (13, 12), (13, 12), (13, 48), (13, 96), (13, 1600), (13, 8), (13, 8), (13, 8), (13, 200), (13, 26368), (13, 13184), (13, 105472), (13, 105472), (13, 105472), (13, 13184), (13, 13184), (13, 200), (13, 200), (13, 1400), (13, 200), (13, 200), (13, 400), (13, 200), (13, 64), (13, 64), (13, 13184), (13, 13184), (13, 200), (16, 2048), (16, 64), (16, 64), (16, 1)]
def pd_SH (a : Nat) : Nat × Nat := if a < 133 then pd_shL.getD a (0, 0) else if (a - 133) % 3 = 0 then (0, 8) else if (a - 133) % 3 = 1 then (13, 4) else (13, 8)
theorem sh_0 : pd_SH 0 = (11, 14) := by decide +kernel
theorem sh_1 : pd_SH 1 = (17, 16) := by decide +kernel
theorem sh_2 : pd_SH 2 = (18, 12) := by decide +kernel
theorem sh_3 : pd_SH 3 = (2, 2) := by decide +kernel
theorem sh_4 : pd_SH 4 = (13, 200) := by decide +kernel
theorem sh_5 : pd_SH 5 = (13, 1442) := by decide +kernel
theorem sh_6 : pd_SH 6 = (3, 4) := by decide +kernel
theorem sh_7 : pd_SH 7 = (13, 64) := by decide +kernel
theorem sh_8 : pd_SH 8 = (13, 64) := by decide +kernel
theorem sh_9 : pd_SH 9 = (13, 1442) := by decide +kernel
theorem sh_10 : pd_SH 10 = (13, 1442) := by decide +kernel
theorem sh_11 : pd_SH 11 = (1, 5) := by decide +kernel
theorem sh_12 : pd_SH 12 = (13, 128) := by decide +kernel
theorem sh_13 : pd_SH 13 = (13, 128) := by decide +kernel
theorem sh_14 : pd_SH 14 = (13, 64) := by decide +kernel
theorem sh_15 : pd_SH 15 = (13, 3296) := by decide +kernel
theorem sh_16 : pd_SH 16 = (10, 3) := by decide +kernel
theorem sh_17 : pd_SH 17 = (19, 9) := by decide +kernel
theorem sh_18 : pd_SH 18 = (9, 4) := by decide +kernel
theorem sh_19 : pd_SH 19 = (14, 200) := by decide +kernel
theorem sh_20 : pd_SH 20 = (9, 4) := by decide +kernel
theorem sh_21 : pd_SH 21 = (14, 200) := by decide +kernel
theorem sh_22 : pd_SH 22 = (9, 4) := by decide +kernel
theorem sh_23 : pd_SH 23 = (14, 200) := by decide +kernel
theorem sh_24 : pd_SH 24 = (9, 4) := by decide +kernel
theorem sh_25 : pd_SH 25 = (14, 200) := by decide +kernel
theorem sh_26 : pd_SH 26 = (9, 4) := by decide +kernel
theorem sh_27 : pd_SH 27 = (14, 200) := by decide +kernel
theorem sh_28 : pd_SH 28 = (9, 4) := by decide +kernel
theorem sh_29 : pd_SH 29 = (14, 200) := by decide +kernel
theorem sh_30 : pd_SH 30 = (9, 4) := by decide +kernel
theorem sh_31 : pd_SH 31 = (14, 200) := by decide +kernel
theorem sh_32 : pd_SH 32 = (9, 4) := by decide +kernel
theorem sh_33 : pd_SH 33 = (14, 200) := by decide +kernel
theorem sh_34 : pd_SH 34 = (9, 4) := by decide +kernel
theorem sh_35 : pd_SH 35 = (14, 200) := by decide +kernel
theorem sh_36 : pd_SH 36 = (5, 8) := by decide +kernel
theorem sh_37 : pd_SH 37 = (13, 512) := by decide +kernel
theorem sh_38 : pd_SH 38 = (13, 512) := by decide +kernel
theorem sh_39 : pd_SH 39 = (13, 64) := by decide +kernel
theorem sh_40 : pd_SH 40 = (13, 64) := by decide +kernel
theorem sh_41 : pd_SH 41 = (14, 102400) := by decide +kernel
theorem sh_42 : pd_SH 42 = (14, 13184) := by decide +kernel
theorem sh_43 : pd_SH 43 = (6, 6) := by decide +kernel
theorem sh_44 : pd_SH 44 = (13, 12800) := by decide +kernel
theorem sh_45 : pd_SH 45 = (13, 64) := by decide +kernel
theorem sh_46 : pd_SH 46 = (13, 64) := by decide +kernel
theorem sh_47 : pd_SH 47 = (13, 200) := by decide +kernel
theorem sh_48 : pd_SH 48 = (13, 200) := by decide +kernel
theorem sh_49 : pd_SH 49 = (8, 8) := by decide +kernel
theorem sh_50 : pd_SH 50 = (13, 200) := by decide +kernel
theorem sh_51 : pd_SH 51 = (13, 200) := by decide +kernel
theorem sh_52 : pd_SH 52 = (13, 200) := by decide +kernel
theorem sh_53 : pd_SH 53 = (13, 200) := by decide +kernel
theorem sh_54 : pd_SH 54 = (7, 6) := by decide +kernel
theorem sh_55 : pd_SH 55 = (13, 64) := by decide +kernel
theorem sh_56 : pd_SH 56 = (13, 64) := by decide +kernel
theorem sh_57 : pd_SH 57 = (13, 64) := by decide +kernel
theorem sh_58 : pd_SH 58 = (16, 1984) := by decide +kernel
theorem sh_59 : pd_SH 59 = (13, 200) := by decide +kernel
theorem sh_60 : pd_SH 60 = (4, 2) := by decide +kernel
theorem sh_61 : pd_SH 61 = (15, 600) := by decide +kernel
theorem sh_62 : pd_SH 62 = (4, 2) := by decide +kernel
theorem sh_63 : pd_SH 63 = (15, 600) := by decide +kernel
theorem sh_64 : pd_SH 64 = (4, 2) := by decide +kernel
theorem sh_65 : pd_SH 65 = (15, 600) := by decide +kernel
theorem sh_66 : pd_SH 66 = (4, 2) := by decide +kernel
theorem sh_67 : pd_SH 67 = (15, 600) := by decide +kernel
theorem sh_68 : pd_SH 68 = (4, 2) := by decide +kernel
theorem sh_69 : pd_SH 69 = (15, 600) := by decide +kernel
theorem sh_70 : pd_SH 70 = (4, 2) := by decide +kernel
theorem sh_71 : pd_SH 71 = (15, 600) := by decide +kernel
theorem sh_72 : pd_SH 72 = (4, 2) := by decide +kernel
theorem sh_73 : pd_SH 73 = (15, 600) := by decide +kernel
theorem sh_74 : pd_SH 74 = (4, 2) := by decide +kernel
theorem sh_75 : pd_SH 75 = (15, 600) := by decide +kernel
theorem sh_76 : pd_SH 76 = (4, 2) := by decide +kernel
theorem sh_77 : pd_SH 77 = (15, 600) := by decide +kernel
theorem sh_78 : pd_SH 78 = (4, 2) := by decide +kernel
theorem sh_79 : pd_SH 79 = (15, 600) := by decide +kernel
theorem sh_80 : pd_SH 80 = (4, 2) := by decide +kernel
theorem sh_81 : pd_SH 81 = (15, 600) := by decide +kernel
theorem sh_82 : pd_SH 82 = (4, 2) := by decide +kernel
theorem sh_83 : pd_SH 83 = (15, 600) := by decide +kernel
theorem sh_84 : pd_SH 84 = (4, 2) := by decide +kernel
theorem sh_85 : pd_SH 85 = (15, 600) := by decide +kernel
theorem sh_86 : pd_SH 86 = (4, 2) := by decide +kernel
theorem sh_87 : pd_SH 87 = (15, 600) := by decide +kernel
theorem sh_88 : pd_SH 88 = (4, 2) := by decide +kernel
theorem sh_89 : pd_SH 89 = (15, 600) := by decide +kernel
theorem sh_90 : pd_SH 90 = (4, 2) := by decide +kernel
theorem sh_91 : pd_SH 91 = (15, 600) := by decide +kernel
theorem sh_92 : pd_SH 92 = (12, 44) := by decide +kernel
theorem sh_93 : pd_SH 93 = (13, 16) := by decide +kernel
theorem sh_94 : pd_SH 94 = (13, 9600) := by decide +kernel
theorem sh_95 : pd_SH 95 = (13, 64) := by decide +kernel
theorem sh_96 : pd_SH 96 = (13, 64) := by decide +kernel
theorem sh_97 : pd_SH 97 = (13, 12) := by decide +kernel
theorem sh_98 : pd_SH 98 = (13, 12) := by decide +kernel
theorem sh_99 : pd_SH 99 = (13, 12) := by decide +kernel
theorem sh_100 : pd_SH 100 = (13, 12) := by decide +kernel
theorem sh_101 : pd_SH 101 = (13, 12) := by decide +kernel
theorem sh_102 : pd_SH 102 = (13, 12) := by decide +kernel
theorem sh_103 : pd_SH 103 = (13, 48) := by decide +kernel
theorem sh_104 : pd_SH 104 = (13, 96) := by decide +kernel
theorem sh_105 : pd_SH 105 = (13, 1600) := by decide +kernel
theorem sh_106 : pd_SH 106 = (13, 8) := by decide +kernel
theorem sh_107 : pd_SH 107 = (13, 8) := by decide +kernel
theorem sh_108 : pd_SH 108 = (13, 8) := by decide +kernel
theorem sh_109 : pd_SH 109 = (13, 200) := by decide +kernel
theorem sh_110 : pd_SH 110 = (13, 26368) := by decide +kernel
theorem sh_111 : pd_SH 111 = (13, 13184) := by decide +kernel
theorem sh_112 : pd_SH 112 = (13, 105472) := by decide +kernel
theorem sh_113 : pd_SH 113 = (13, 105472) := by decide +kernel
theorem sh_114 : pd_SH 114 = (13, 105472) := by decide +kernel
theorem sh_115 : pd_SH 115 = (13, 13184) := by decide +kernel
theorem sh_116 : pd_SH 116 = (13, 13184) := by decide +kernel
theorem sh_117 : pd_SH 117 = (13, 200) := by decide +kernel
theorem sh_118 : pd_SH 118 = (13, 200) := by decide +kernel
theorem sh_119 : pd_SH 119 = (13, 1400) := by decide +kernel
theorem sh_120 : pd_SH 120 = (13, 200) := by decide +kernel
theorem sh_121 : pd_SH 121 = (13, 200) := by decide +kernel
theorem sh_122 : pd_SH 122 = (13, 400) := by decide +kernel
theorem sh_123 : pd_SH 123 = (13, 200) := by decide +kernel
theorem sh_124 : pd_SH 124 = (13, 64) := by decide +kernel
theorem sh_125 : pd_SH 125 = (13, 64) := by decide +kernel
theorem sh_126 : pd_SH 126 = (13, 13184) := by decide +kernel
theorem sh_127 : pd_SH 127 = (13, 13184) := by decide +kernel
theorem sh_128 : pd_SH 128 = (13, 200) := by decide +kernel
theorem sh_129 : pd_SH 129 = (16, 2048) := by decide +kernel
theorem sh_130 : pd_SH 130 = (16, 64) := by decide +kernel
theorem sh_131 : pd_SH 131 = (16, 64) := by decide +kernel
theorem sh_132 : pd_SH 132 = (16, 1) := by decide +kernel
def pd_ftL : List (List Bool) := [[false, false, false, true, false, false, false, true], [true, true, true, false, true], [true, true], [true, true, true, true], [true, false], [true, true, true, true, true, true, true, true], [true, true, true, true, true, true], [true, true, false, true, true, true], [true, true, true, true, true, true, true, false], [false, false, false, true], [true, false, false], [true, true, false, true, true, true, true, true, true, true, true, true, false, false], [false, true, true, true, true, false, true, true, true, true, true, true, true, true, false, true, true, true, true, false, true, false, true, true, true, true, true, true, true, true, true, true, true, true, true, true, true, true, true, true, true, true, true, true]]
def pd_FT (t k : Nat) : Bool := (pd_ftL.getD t []).getD k false
def pd_dy (a k : Nat) : Bool := decide (a = 2 ∨ a = 17 ∨ (a = 36 ∧ 2 ≤ k ∧ k ≤ 5) ∨ (a = 43 ∧ 2 ≤ k ∧ k ≤ 3))
def pd_r0L : List (List (Option Nat)) := [[some 1, some 2, none, some 3, some 6, some 11, some 16, some 36, some 43, some 49, some 54, some 59, none, none], [some 60, some 62, some 64, some 66, some 68, some 70, some 72, some 74, some 76, some 78, some 80, some 82, some 84, some 86, some 88, some 90], [none, none, none, none, none, none, none, none, none, none, none, none], [some 4, some 5], [], [], [some 7, some 8, some 9, some 10], [], [], [], [], [some 12, some 13, some 14, none, some 15], [], [], [], [], [some 17, none, none], [none, none, none, none, none, none, none, none, none], [none, none, none, some 19], [], [none, none, none, some 21], [], [none, none, none, some 23], [], [none, none, none, some 25], [], [none, none, none, some 27], [], [none, none, none, some 29], [], [none, none, none, some 31], [], [none, none, none, some 33], [], [none, none, none, some 35], [], [some 11, some 16, none, none, none, none, some 41, some 42], [], [], [], [], [], [], [some 11, some 44, none, none, some 47, some 48], [], [], [], [], [], [some 6, some 11, some 43, some 50, some 51, some 52, some 53, none], [], [], [], [], [some 11, some 55, none, some 56, some 57, some 58], [], [], [], [], [], [some 61, none], [], [some 63, none], [], [some 65, none], [], [some 67, none], [], [some 69, none], [], [some 71, none], [], [some 73, none], [], [some 75, none], [], [some 77, none], [], [some 79, none], [], [some 81, none], [], [some 83, none], [], [some 85, none], [], [some 87, none], [], [some 89, none], [], [some 91, none], [], [none, some 93, some 94, some 95, some 96, none, some 97, some 98, some 99, some 100, some 101, some 102, some 103, some 104, none, some 105, some 106, some 107, some 108, none, some 109, none, some 110, some 111, some 112, some 113, some 114, some 115, some 116, some 117, some 118, some 119, some 120, some 121, some 122, some 123, some 124, some 125, some 126, some 127, some 128, some 129, some 130, some 131], [], [], [], [], [], [], [], [], [], [], [], [], [], [], [], [], [], [], [], [], [], [], [], [], [], [], [], [], [], [], [], [], [], [], [], [], [], [], [], []]
def pd_R0 (a k : Nat) : Option Nat := if a < 133 then (pd_r0L.getD a []).getD k none else if (a - 133) % 3 = 0 then (if k = 3 then some (a + 1) else if k = 7 then some (a + 2) else none) else none
/-- the references: those that stay, and those that move -/
def pd_RF (Z : Nat → Nat → Option Nat) (a k : Nat) : Option Nat := if pd_dy a k = true then Z a k else pd_R0 a k
theorem rf_0_0 (Z : Nat → Nat → Option Nat) : pd_RF Z 0 0 = some 1 := rfl
theorem rf_0_1 (Z : Nat → Nat → Option Nat) : pd_RF Z 0 1 = some 2 := rfl
theorem rf_0_3 (Z : Nat → Nat → Option Nat) : pd_RF Z 0 3 = some 3 := rfl
theorem rf_0_4 (Z : Nat → Nat → Option Nat) : pd_RF Z 0 4 = some 6 := rfl
theorem rf_0_5 (Z : Nat → Nat → Option Nat) : pd_RF Z 0 5 = some 11 := rfl
theorem rf_0_6 (Z : Nat → Nat → Option Nat) : pd_RF Z 0 6 = some 16 := rfl
theorem rf_0_7 (Z : Nat → Nat → Option Nat) : pd_RF Z 0 7 = some 36 := rfl
theorem rf_0_8 (Z : Nat → Nat → Option Nat) : pd_RF Z 0 8 = some 43 := rfl
theorem rf_0_9 (Z : Nat → Nat → Option Nat) : pd_RF Z 0 9 = some 49 := rfl
theorem rf_0_10 (Z : Nat → Nat → Option Nat) : pd_RF Z 0 10 = some 54 := rfl
theorem rf_0_11 (Z : Nat → Nat → Option Nat) : pd_RF Z 0 11 = some 59 := rfl
theorem rf_1_0 (Z : Nat → Nat → Option Nat) : pd_RF Z 1 0 = some 60 := rfl
theorem rf_1_1 (Z : Nat → Nat → Option Nat) : pd_RF Z 1 1 = some 62 := rfl
theorem rf_1_2 (Z : Nat → Nat → Option Nat) : pd_RF Z 1 2 = some 64 := rfl
theorem rf_1_3 (Z : Nat → Nat → Option Nat) : pd_RF Z 1 3 = some 66 := rfl
theorem rf_1_4 (Z : Nat → Nat → Option Nat) : pd_RF Z 1 4 = some 68 := rfl
theorem rf_1_5 (Z : Nat → Nat → Option Nat) : pd_RF Z 1 5 = some 70 := rfl
theorem rf_1_6 (Z : Nat → Nat → Option Nat) : pd_RF Z 1 6 = some 72 := rfl
theorem rf_1_7 (Z : Nat → Nat → Option Nat) : pd_RF Z 1 7 = some 74 := rfl
theorem rf_1_8 (Z : Nat → Nat → Option Nat) : pd_RF Z 1 8 = some 76 := rfl
theorem rf_1_9 (Z : Nat → Nat → Option Nat) : pd_RF Z 1 9 = some 78 := rfl
theorem rf_1_10 (Z : Nat → Nat → Option Nat) : pd_RF Z 1 10 = some 80 := rfl
theorem rf_1_11 (Z : Nat → Nat → Option Nat) : pd_RF Z 1 11 = some 82 := rfl
theorem rf_1_12 (Z : Nat → Nat → Option Nat) : pd_RF Z 1 12 = some 84 := rfl
theorem rf_1_13 (Z : Nat → Nat → Option Nat) : pd_RF Z 1 13 = some 86 := rfl
theorem rf_1_14 (Z : Nat → Nat → Option Nat) : pd_RF Z 1 14 = some 88 := rfl
theorem rf_1_15 (Z : Nat → Nat → Option Nat) : pd_RF Z 1 15 = some 90 := rfl
theorem rf_3_0 (Z : Nat → Nat → Option Nat) : pd_RF Z 3 0 = some 4 := rfl
theorem rf_3_1 (Z : Nat → Nat → Option Nat) : pd_RF Z 3 1 = some 5 := rfl
theorem rf_6_0 (Z : Nat → Nat → Option Nat) : pd_RF Z 6 0 = some 7 := rfl
theorem rf_6_1 (Z : Nat → Nat → Option Nat) : pd_RF Z 6 1 = some 8 := rfl
theorem rf_6_2 (Z : Nat → Nat → Option Nat) : pd_RF Z 6 2 = some 9 := rfl
theorem rf_6_3 (Z : Nat → Nat → Option Nat) : pd_RF Z 6 3 = some 10 := rfl
theorem rf_11_0 (Z : Nat → Nat → Option Nat) : pd_RF Z 11 0 = some 12 := rfl
theorem rf_11_1 (Z : Nat → Nat → Option Nat) : pd_RF Z 11 1 = some 13 := rfl
theorem rf_11_2 (Z : Nat → Nat → Option Nat) : pd_RF Z 11 2 = some 14 := rfl
theorem rf_11_4 (Z : Nat → Nat → Option Nat) : pd_RF Z 11 4 = some 15 := rfl
theorem rf_16_0 (Z : Nat → Nat → Option Nat) : pd_RF Z 16 0 = some 17 := rfl
theorem rf_18_3 (Z : Nat → Nat → Option Nat) : pd_RF Z 18 3 = some 19 := rfl
theorem rf_20_3 (Z : Nat → Nat → Option Nat) : pd_RF Z 20 3 = some 21 := rfl
theorem rf_22_3 (Z : Nat → Nat → Option Nat) : pd_RF Z 22 3 = some 23 := rfl
theorem rf_24_3 (Z : Nat → Nat → Option Nat) : pd_RF Z 24 3 = some 25 := rfl
theorem rf_26_3 (Z : Nat → Nat → Option Nat) : pd_RF Z 26 3 = some 27 := rfl
theorem rf_28_3 (Z : Nat → Nat → Option Nat) : pd_RF Z 28 3 = some 29 := rfl
theorem rf_30_3 (Z : Nat → Nat → Option Nat) : pd_RF Z 30 3 = some 31 := rfl
theorem rf_32_3 (Z : Nat → Nat → Option Nat) : pd_RF Z 32 3 = some 33 := rfl
theorem rf_34_3 (Z : Nat → Nat → Option Nat) : pd_RF Z 34 3 = some 35 := rfl
theorem rf_36_0 (Z : Nat → Nat → Option Nat) : pd_RF Z 36 0 = some 11 := rfl
theorem rf_36_1 (Z : Nat → Nat → Option Nat) : pd_RF Z 36 1 = some 16 := rfl
theorem rf_36_6 (Z : Nat → Nat → Option Nat) : pd_RF Z 36 6 = some 41 := rfl
theorem rf_36_7 (Z : Nat → Nat → Option Nat) : pd_RF Z 36 7 = some 42 := rfl
theorem rf_43_0 (Z : Nat → Nat → Option Nat) : pd_RF Z 43 0 = some 11 := rfl
theorem rf_43_1 (Z : Nat → Nat → Option Nat) : pd_RF Z 43 1 = some 44 := rfl
theorem rf_43_4 (Z : Nat → Nat → Option Nat) : pd_RF Z 43 4 = some 47 := rfl
theorem rf_43_5 (Z : Nat → Nat → Option Nat) : pd_RF Z 43 5 = some 48 := rfl
theorem rf_49_0 (Z : Nat → Nat → Option Nat) : pd_RF Z 49 0 = some 6 := rfl
theorem rf_49_1 (Z : Nat → Nat → Option Nat) : pd_RF Z 49 1 = some 11 := rfl
theorem rf_49_2 (Z : Nat → Nat → Option Nat) : pd_RF Z 49 2 = some 43 := rfl
theorem rf_49_3 (Z : Nat → Nat → Option Nat) : pd_RF Z 49 3 = some 50 := rfl
theorem rf_49_4 (Z : Nat → Nat → Option Nat) : pd_RF Z 49 4 = some 51 := rfl
theorem rf_49_5 (Z : Nat → Nat → Option Nat) : pd_RF Z 49 5 = some 52 := rfl
theorem rf_49_6 (Z : Nat → Nat → Option Nat) : pd_RF Z 49 6 = some 53 := rfl
theorem rf_54_0 (Z : Nat → Nat → Option Nat) : pd_RF Z 54 0 = some 11 := rfl
theorem rf_54_1 (Z : Nat → Nat → Option Nat) : pd_RF Z 54 1 = some 55 := rfl
theorem rf_54_3 (Z : Nat → Nat → Option Nat) : pd_RF Z 54 3 = some 56 := rfl
theorem rf_54_4 (Z : Nat → Nat → Option Nat) : pd_RF Z 54 4 = some 57 := rfl
theorem rf_54_5 (Z : Nat → Nat → Option Nat) : pd_RF Z 54 5 = some 58 := rfl
theorem rf_60_0 (Z : Nat → Nat → Option Nat) : pd_RF Z 60 0 = some 61 := rfl
theorem rf_62_0 (Z : Nat → Nat → Option Nat) : pd_RF Z 62 0 = some 63 := rfl
theorem rf_64_0 (Z : Nat → Nat → Option Nat) : pd_RF Z 64 0 = some 65 := rfl
theorem rf_66_0 (Z : Nat → Nat → Option Nat) : pd_RF Z 66 0 = some 67 := rfl
theorem rf_68_0 (Z : Nat → Nat → Option Nat) : pd_RF Z 68 0 = some 69 := rfl
theorem rf_70_0 (Z : Nat → Nat → Option Nat) : pd_RF Z 70 0 = some 71 := rfl
theorem rf_72_0 (Z : Nat → Nat → Option Nat) : pd_RF Z 72 0 = some 73 := rfl
theorem rf_74_0 (Z : Nat → Nat → Option Nat) : pd_RF Z 74 0 = some 75 := rfl
theorem rf_76_0 (Z : Nat → Nat → Option Nat) : pd_RF Z 76 0 = some 77 := rfl
theorem rf_78_0 (Z : Nat → Nat → Option Nat) : pd_RF Z 78 0 = some 79 := rfl
theorem rf_80_0 (Z : Nat → Nat → Option Nat) : pd_RF Z 80 0 = some 81 := rfl
theorem rf_82_0 (Z : Nat → Nat → Option Nat) : pd_RF Z 82 0 = some 83 := rfl
theorem rf_84_0 (Z : Nat → Nat → Option Nat) : pd_RF Z 84 0 = some 85 := rfl
theorem rf_86_0 (Z : Nat → Nat → Option Nat) : pd_RF Z 86 0 = some 87 := rfl
theorem rf_88_0 (Z : Nat → Nat → Option Nat) : pd_RF Z 88 0 = some 89 := rfl
theorem rf_90_0 (Z : Nat → Nat → Option Nat) : pd_RF Z 90 0 = some 91 := rfl
theorem rf_92_1 (Z : Nat → Nat → Option Nat) : pd_RF Z 92 1 = some 93 := rfl
theorem rf_92_2 (Z : Nat → Nat → Option Nat) : pd_RF Z 92 2 = some 94 := rfl
theorem rf_92_3 (Z : Nat → Nat → Option Nat) : pd_RF Z 92 3 = some 95 := rfl
theorem rf_92_4 (Z : Nat → Nat → Option Nat) : pd_RF Z 92 4 = some 96 := rfl
theorem rf_92_6 (Z : Nat → Nat → Option Nat) : pd_RF Z 92 6 = some 97 := rfl
theorem rf_92_7 (Z : Nat → Nat → Option Nat) : pd_RF Z 92 7 = some 98 := rfl
theorem rf_92_8 (Z : Nat → Nat → Option Nat) : pd_RF Z 92 8 = some 99 := rfl
theorem rf_92_9 (Z : Nat → Nat → Option Nat) : pd_RF Z 92 9 = some 100 := rfl
theorem rf_92_10 (Z : Nat → Nat → Option Nat) : pd_RF Z 92 10 = some 101 := rfl
theorem rf_92_11 (Z : Nat → Nat → Option Nat) : pd_RF Z 92 11 = some 102 := rfl
theorem rf_92_12 (Z : Nat → Nat → Option Nat) : pd_RF Z 92 12 = some 103 := rfl
theorem rf_92_13 (Z : Nat → Nat → Option Nat) : pd_RF Z 92 13 = some 104 := rfl
theorem rf_92_15 (Z : Nat → Nat → Option Nat) : pd_RF Z 92 15 = some 105 := rfl
theorem rf_92_16 (Z : Nat → Nat → Option Nat) : pd_RF Z 92 16 = some 106 := rfl
theorem rf_92_17 (Z : Nat → Nat → Option Nat) : pd_RF Z 92 17 = some 107 := rfl
theorem rf_92_18 (Z : Nat → Nat → Option Nat) : pd_RF Z 92 18 = some 108 := rfl
theorem rf_92_20 (Z : Nat → Nat → Option Nat) : pd_RF Z 92 20 = some 109 := rfl
theorem rf_92_22 (Z : Nat → Nat → Option Nat) : pd_RF Z 92 22 = some 110 := rfl
theorem rf_92_23 (Z : Nat → Nat → Option Nat) : pd_RF Z 92 23 = some 111 := rfl
theorem rf_92_24 (Z : Nat → Nat → Option Nat) : pd_RF Z 92 24 = some 112 := rfl
theorem rf_92_25 (Z : Nat → Nat → Option Nat) : pd_RF Z 92 25 = some 113 := rfl
theorem rf_92_26 (Z : Nat → Nat → Option Nat) : pd_RF Z 92 26 = some 114 := rfl
theorem rf_92_27 (Z : Nat → Nat → Option Nat) : pd_RF Z 92 27 = some 115 := rfl
theorem rf_92_28 (Z : Nat → Nat → Option Nat) : pd_RF Z 92 28 = some 116 := rfl
theorem rf_92_29 (Z : Nat → Nat → Option Nat) : pd_RF Z 92 29 = some 117 := rfl
theorem rf_92_30 (Z : Nat → Nat → Option Nat) : pd_RF Z 92 30 = some 118 := rfl
theorem rf_92_31 (Z : Nat → Nat → Option Nat) : pd_RF Z 92 31 = some 119 := rfl
theorem rf_92_32 (Z : Nat → Nat → Option Nat) : pd_RF Z 92 32 = some 120 := rfl
theorem rf_92_33 (Z : Nat → Nat → Option Nat) : pd_RF Z 92 33 = some 121 := rfl
theorem rf_92_34 (Z : Nat → Nat → Option Nat) : pd_RF Z 92 34 = some 122 := rfl
theorem rf_92_35 (Z : Nat → Nat → Option Nat) : pd_RF Z 92 35 = some 123 := rfl
theorem rf_92_36 (Z : Nat → Nat → Option Nat) : pd_RF Z 92 36 = some 124 := rfl
theorem rf_92_37 (Z : Nat → Nat → Option Nat) : pd_RF Z 92 37 = some 125 := rfl
theorem rf_92_38 (Z : Nat → Nat → Option Nat) : pd_RF Z 92 38 = some 126 := rfl
theorem rf_92_39 (Z : Nat → Nat → Option Nat) : pd_RF Z 92 39 = some 127 := rfl
theorem rf_92_40 (Z : Nat → Nat → Option Nat) : pd_RF Z 92 40 = some 128 := rfl
theorem rf_92_41 (Z : Nat → Nat → Option Nat) : pd_RF Z 92 41 = some 129 := rfl
theorem rf_92_42 (Z : Nat → Nat → Option Nat) : pd_RF Z 92 42 = some 130 := rfl
theorem rf_92_43 (Z : Nat → Nat → Option Nat) : pd_RF Z 92 43 = some 131 := rfl
/-! the words that hold for every method -/
def pd_B : List Cond := lw_tbl.filter goodWord
theorem pd_in1 {w : Cond} (h : w ∈ lw_tbl) (hg : goodWord w = true) : w ∈ pd_B := List.mem_filter.mpr ⟨h, hg⟩
theorem tb_0 : ∀ w ∈ tables_1, w ∈ lw_tbl := fun w h => List.mem_append_right _ h
theorem tb_1 : ∀ w ∈ tables_1_1, w ∈ lw_tbl := fun w h => tb_0 w (List.mem_append_left _ h)
theorem tb_2 : ∀ w ∈ tables_1_2, w ∈ lw_tbl := fun w h => tb_0 w (List.mem_append_right _ (List.mem_append_left _ h))
theorem tb_3 : ∀ w ∈ tables_1_3, w ∈ lw_tbl := fun w h => tb_0 w (List.mem_append_right _ (List.mem_append_right _ (List.mem_append_left _ h)))
theorem tb_4 : ∀ w ∈ tables_1_4, w ∈ lw_tbl := fun w h => tb_0 w (List.mem_append_right _ (List.mem_append_right _ (List.mem_append_right _ (List.mem_append_left _ h))))
theorem tb_5 : ∀ w ∈ tables_1_5, w ∈ lw_tbl := fun w h => tb_0 w (List.mem_append_right _ (List.mem_append_right _ (List.mem_append_right _ (List.mem_append_right _ (List.mem_append_left _ h)))))
theorem tb_6 : ∀ w ∈ tables_1_6, w ∈ lw_tbl := fun w h => tb_0 w (List.mem_append_right _ (List.mem_append_right _ (List.mem_append_right _ (List.mem_append_right _ (List.mem_append_right _ (List.mem_append_left _ h))))))
theorem tb_7 : ∀ w ∈ tables_1_7, w ∈ lw_tbl := fun w h => tb_0 w (List.mem_append_right _ (List.mem_append_right _ (List.mem_append_right _ (List.mem_append_right _ (List.mem_append_right _ (List.mem_append_right _ (h)))))))
theorem tb_sel {q : MethodName × Nat} (h : q ∈ lw_privs) : Cond.selects q.1.cls q.1 q.1 ∈ lw_tbl := List.mem_append_left _ (List.mem_map.mpr ⟨q, h, rfl⟩)
def pd_strs : List (String × Nat × String) := [("PathDecoder", 349, "there is no such row"), ("PathDecoder", 105, "a row has 0 to 600 numbers"), ("PathDecoder", 118, "a number is -32 to 31"), ("PathDecoder", 352, "the row is missing"), ("PathDecoder", 357, "the row has no such number"), ("PathDecoder", 146, "a cost is 0 to 1000"), ("PathDecoder", 151, "a kind is 0 to 5"), ("PathDecoder", 153, "a code has 1 to 6 cells"), ("PathDecoder", 155, "a code has 2 to 4 outs"), ("PathDecoder", 359, "there is no such code"), ("PathDecoder", 169, "the code has no feed"), ("PathDecoder", 175, "the code has no such out"), ("PathDecoder", 369, "these are not so many bits"), ("PathDecoder", 192, "the code is not cut"), ("PathDecoder", 194, "a period is 1 to 8"), ("PathDecoder", 196, "there is no such keep in the period"), ("PathDecoder", 210, "the code is no twin"), ("PathDecoder", 212, "a stride is 1 to 199"), ("PathDecoder", 367, "a message has 1 to 200 bits"), ("PathDecoder", 365, "the code is a twin"), ("PathDecoder", 262, "a list has 1 to 8 ways"), ("PathDecoder", 264, "the code is a ring or a twin"), ("PathDecoder", 266, "1 to 64 states are kept"), ("PathDecoder", 275, "there are 1 to 10 turns"), ("PathDecoder", 310, "nothing is kept for that bit"), ("PathDecoder", 363, "there is no such way"), ("PathDecoder", 317, "the way has no such bit"), ("PathDecoder", 361, "the code is neither plain nor fed"), ("PathDecoder", 333, "a weight is 0 to 30"), ("PathDecoder$Code", 73, "nothing is told by that number")]
def pd_nest : List (String × Nat × MethodName × String) := [("PathDecoder", 27, ⟨"PathDecoder$Message","<init>","()V"⟩, "PathDecoder"), ("PathDecoder", 41, ⟨"PathDecoder$Lattice","<init>","()V"⟩, "PathDecoder"), ("PathDecoder$Ways", 24, ⟨"PathDecoder$Way","<init>","()V"⟩, "PathDecoder"), ("PathDecoder", 98, ⟨"PathDecoder$Row","<init>","()V"⟩, "PathDecoder"), ("PathDecoder$Row", 19, ⟨"PathDecoder","bounded","(III)I"⟩, "PathDecoder"), ("PathDecoder$Code", 62, ⟨"PathDecoder","parity","(I)I"⟩, "PathDecoder"), ("PathDecoder$Turns", 70, ⟨"PathDecoder","bounded","(III)I"⟩, "PathDecoder")]
def pd_cast : List String := ["java/lang/IndexOutOfBoundsException", "java/lang/IllegalArgumentException", "java/util/NoSuchElementException"]
def pd_ncs : List (String × String) := [("java/lang/IndexOutOfBoundsException", "java/lang/IllegalArgumentException"), ("java/lang/IndexOutOfBoundsException", "java/util/NoSuchElementException"), ("java/lang/IllegalArgumentException", "java/lang/IndexOutOfBoundsException"), ("java/lang/IllegalArgumentException", "java/util/NoSuchElementException"), ("java/util/NoSuchElementException", "java/lang/IndexOutOfBoundsException"), ("java/util/NoSuchElementException", "java/lang/IllegalArgumentException")]
def pd_decl : List MethodName := [⟨"java/lang/RuntimeException", "<init>", "(Ljava/lang/String;)V"⟩, ⟨"java/lang/Exception", "<init>", "(Ljava/lang/String;)V"⟩, ⟨"java/lang/Throwable", "<init>", "(Ljava/lang/String;)V"⟩]
def pd_over : List String := ["PathDecoder$Row", "PathDecoder$Code", "PathDecoder$Way"]
theorem wd_1_0 : (Jvm.Cond.initialized "PathDecoderLaw") ∈ pd_B := pd_in1 (tb_1 _ (List.mem_of_getElem? (i := 0) rfl)) rfl
theorem wd_1_1 : (Jvm.Cond.initialized "PathDecoder") ∈ pd_B := pd_in1 (tb_1 _ (List.mem_of_getElem? (i := 1) rfl)) rfl
theorem wd_1_2 : (Jvm.Cond.initialized "PathDecoder$Message") ∈ pd_B := pd_in1 (tb_1 _ (List.mem_of_getElem? (i := 2) rfl)) rfl
theorem wd_1_3 : (Jvm.Cond.initialized "PathDecoder$Received") ∈ pd_B := pd_in1 (tb_1 _ (List.mem_of_getElem? (i := 3) rfl)) rfl
theorem wd_1_4 : (Jvm.Cond.initialized "PathDecoder$Lattice") ∈ pd_B := pd_in1 (tb_1 _ (List.mem_of_getElem? (i := 4) rfl)) rfl
theorem wd_1_5 : (Jvm.Cond.initialized "PathDecoder$Ways") ∈ pd_B := pd_in1 (tb_1 _ (List.mem_of_getElem? (i := 5) rfl)) rfl
theorem wd_1_6 : (Jvm.Cond.initialized "PathDecoder$Way") ∈ pd_B := pd_in1 (tb_1 _ (List.mem_of_getElem? (i := 6) rfl)) rfl
theorem wd_1_7 : (Jvm.Cond.initialized "PathDecoder$Search") ∈ pd_B := pd_in1 (tb_1 _ (List.mem_of_getElem? (i := 7) rfl)) rfl
theorem wd_1_8 : (Jvm.Cond.initialized "PathDecoder$Seeming") ∈ pd_B := pd_in1 (tb_1 _ (List.mem_of_getElem? (i := 8) rfl)) rfl
theorem wd_1_9 : (Jvm.Cond.initialized "PathDecoder$Turns") ∈ pd_B := pd_in1 (tb_1 _ (List.mem_of_getElem? (i := 9) rfl)) rfl
theorem wd_1_10 : (Jvm.Cond.initialized "PathDecoder$Spectrum") ∈ pd_B := pd_in1 (tb_1 _ (List.mem_of_getElem? (i := 10) rfl)) rfl
theorem wd_1_11 : (Jvm.Cond.initialized "PathDecoder$Row") ∈ pd_B := pd_in1 (tb_1 _ (List.mem_of_getElem? (i := 11) rfl)) rfl
theorem wd_1_12 : (Jvm.Cond.initialized "PathDecoderModel") ∈ pd_B := pd_in1 (tb_1 _ (List.mem_of_getElem? (i := 12) rfl)) rfl
theorem wd_1_13 : (Jvm.Cond.initialized "java/lang/Throwable") ∈ pd_B := pd_in1 (tb_1 _ (List.mem_of_getElem? (i := 13) rfl)) rfl
theorem wd_1_14 : (Jvm.Cond.initialized "java/lang/Exception") ∈ pd_B := pd_in1 (tb_1 _ (List.mem_of_getElem? (i := 14) rfl)) rfl
theorem wd_1_15 : (Jvm.Cond.initialized "java/lang/RuntimeException") ∈ pd_B := pd_in1 (tb_1 _ (List.mem_of_getElem? (i := 15) rfl)) rfl
theorem wd_1_16 : (Jvm.Cond.initialized "java/lang/IndexOutOfBoundsException") ∈ pd_B := pd_in1 (tb_1 _ (List.mem_of_getElem? (i := 16) rfl)) rfl
theorem wd_1_17 : (Jvm.Cond.initialized "java/lang/IllegalArgumentException") ∈ pd_B := pd_in1 (tb_1 _ (List.mem_of_getElem? (i := 17) rfl)) rfl
theorem wd_1_18 : (Jvm.Cond.initialized "java/lang/Math") ∈ pd_B := pd_in1 (tb_1 _ (List.mem_of_getElem? (i := 18) rfl)) rfl
theorem wd_1_19 : (Jvm.Cond.initialized "java/util/NoSuchElementException") ∈ pd_B := pd_in1 (tb_1 _ (List.mem_of_getElem? (i := 19) rfl)) rfl
theorem wd_1_20 : (Jvm.Cond.initialized "PathDecoder$Code") ∈ pd_B := pd_in1 (tb_1 _ (List.mem_of_getElem? (i := 20) rfl)) rfl
theorem wd_1_21 : (Jvm.Cond.initialized "java/lang/Integer") ∈ pd_B := pd_in1 (tb_1 _ (List.mem_of_getElem? (i := 21) rfl)) rfl
theorem wd_1_22 : (Jvm.Cond.classLink "PathDecoderLaw" (8 : Nat) "PathDecoder") ∈ pd_B := pd_in1 (tb_1 _ (List.mem_of_getElem? (i := 22) rfl)) rfl
theorem wd_1_23 : (Jvm.Cond.instantiable "PathDecoder" (14 : Nat)) ∈ pd_B := pd_in1 (tb_1 _ (List.mem_of_getElem? (i := 23) rfl)) rfl
theorem wd_1_24 : (Jvm.Cond.methodLink "PathDecoderLaw" (97 : Nat) ({ cls := "PathDecoder", name := "<init>", desc := "()V" } : Jvm.MethodName)) ∈ pd_B := pd_in1 (tb_1 _ (List.mem_of_getElem? (i := 24) rfl)) rfl
theorem wd_1_25 : (Jvm.Cond.instanceMethod ({ cls := "PathDecoder", name := "<init>", desc := "()V" } : Jvm.MethodName)) ∈ pd_B := pd_in1 (tb_1 _ (List.mem_of_getElem? (i := 25) rfl)) rfl
theorem wd_1_26 : (Jvm.Cond.code ({ cls := "PathDecoder", name := "<init>", desc := "()V" } : Jvm.MethodName) prog_1_method_1_code (2 : Nat) (Option.none : Option Jvm.ClassFile.FieldType)) ∈ pd_B := pd_in1 (tb_1 _ (List.mem_of_getElem? (i := 26) rfl)) rfl
theorem wd_1_27 : (Jvm.Cond.methodLink "PathDecoder" (3 : Nat) ({ cls := "java/lang/Object", name := "<init>", desc := "()V" } : Jvm.MethodName)) ∈ pd_B := pd_in1 (tb_1 _ (List.mem_of_getElem? (i := 27) rfl)) rfl
theorem wd_1_28 : (Jvm.Cond.instanceMethod ({ cls := "java/lang/Object", name := "<init>", desc := "()V" } : Jvm.MethodName)) ∈ pd_B := pd_in1 (tb_1 _ (List.mem_of_getElem? (i := 28) rfl)) rfl
theorem wd_1_29 : (Jvm.Cond.code ({ cls := "java/lang/Object", name := "<init>", desc := "()V" } : Jvm.MethodName) object_method_1_code (1 : Nat) (Option.none : Option Jvm.ClassFile.FieldType)) ∈ pd_B := pd_in1 (tb_1 _ (List.mem_of_getElem? (i := 29) rfl)) rfl
theorem wd_1_30 : (Jvm.Cond.classLink "PathDecoder" (9 : Nat) "PathDecoder$Row") ∈ pd_B := pd_in1 (tb_1 _ (List.mem_of_getElem? (i := 30) rfl)) rfl
theorem wd_1_32 : (Jvm.Cond.classLink "PathDecoder" (15 : Nat) "PathDecoder$Code") ∈ pd_B := pd_in1 (tb_1 _ (List.mem_of_getElem? (i := 32) rfl)) rfl
theorem wd_1_34 : (Jvm.Cond.classLink "PathDecoder" (25 : Nat) "PathDecoder$Message") ∈ pd_B := pd_in1 (tb_1 _ (List.mem_of_getElem? (i := 34) rfl)) rfl
theorem wd_1_35 : (Jvm.Cond.instantiable "PathDecoder$Message" (2 : Nat)) ∈ pd_B := pd_in1 (tb_1 _ (List.mem_of_getElem? (i := 35) rfl)) rfl
theorem wd_1_37 : (Jvm.Cond.instanceMethod ({ cls := "PathDecoder$Message", name := "<init>", desc := "()V" } : Jvm.MethodName)) ∈ pd_B := pd_in1 (tb_1 _ (List.mem_of_getElem? (i := 37) rfl)) rfl
theorem wd_1_38 : (Jvm.Cond.code ({ cls := "PathDecoder$Message", name := "<init>", desc := "()V" } : Jvm.MethodName) prog_4_method_1_code (1 : Nat) (Option.none : Option Jvm.ClassFile.FieldType)) ∈ pd_B := pd_in1 (tb_1 _ (List.mem_of_getElem? (i := 38) rfl)) rfl
theorem wd_1_39 : (Jvm.Cond.methodLink "PathDecoder$Message" (3 : Nat) ({ cls := "java/lang/Object", name := "<init>", desc := "()V" } : Jvm.MethodName)) ∈ pd_B := pd_in1 (tb_1 _ (List.mem_of_getElem? (i := 39) rfl)) rfl
theorem wd_1_40 : (Jvm.Cond.fieldLink "PathDecoder$Message" (9 : Nat) "PathDecoder$Message" "bits" "[I") ∈ pd_B := pd_in1 (tb_1 _ (List.mem_of_getElem? (i := 40) rfl)) rfl
theorem wd_1_41 : (Jvm.Cond.fieldLink "PathDecoder$Message" (15 : Nat) "PathDecoder$Message" "signs" "[I") ∈ pd_B := pd_in1 (tb_1 _ (List.mem_of_getElem? (i := 41) rfl)) rfl
theorem wd_1_42 : (Jvm.Cond.fieldLink "PathDecoder$Received" (47 : Nat) "PathDecoder$Message" "signs" "[I") ∈ pd_B := pd_in1 (tb_1 _ (List.mem_of_getElem? (i := 42) rfl)) rfl
theorem wd_1_43 : (Jvm.Cond.laysFinal "PathDecoder$Message" "PathDecoder$Message" "bits" "[I") ∈ pd_B := pd_in1 (tb_1 _ (List.mem_of_getElem? (i := 43) rfl)) rfl
theorem wd_1_45 : (Jvm.Cond.laysFinal "PathDecoder$Message" "PathDecoder$Message" "signs" "[I") ∈ pd_B := pd_in1 (tb_1 _ (List.mem_of_getElem? (i := 45) rfl)) rfl
theorem wd_1_48 : (Jvm.Cond.arrayClass Jvm.ClassFile.FieldType.int) ∈ pd_B := pd_in1 (tb_1 _ (List.mem_of_getElem? (i := 48) rfl)) rfl
theorem wd_1_49 : (Jvm.Cond.classLink "PathDecoder" (32 : Nat) "PathDecoder$Received") ∈ pd_B := pd_in1 (tb_1 _ (List.mem_of_getElem? (i := 49) rfl)) rfl
theorem wd_1_50 : (Jvm.Cond.instantiable "PathDecoder$Received" (4 : Nat)) ∈ pd_B := pd_in1 (tb_1 _ (List.mem_of_getElem? (i := 50) rfl)) rfl
theorem wd_1_51 : (Jvm.Cond.methodLink "PathDecoder" (34 : Nat) ({ cls := "PathDecoder$Received", name := "<init>", desc := "()V" } : Jvm.MethodName)) ∈ pd_B := pd_in1 (tb_1 _ (List.mem_of_getElem? (i := 51) rfl)) rfl
theorem wd_1_52 : (Jvm.Cond.instanceMethod ({ cls := "PathDecoder$Received", name := "<init>", desc := "()V" } : Jvm.MethodName)) ∈ pd_B := pd_in1 (tb_1 _ (List.mem_of_getElem? (i := 52) rfl)) rfl
theorem wd_1_53 : (Jvm.Cond.code ({ cls := "PathDecoder$Received", name := "<init>", desc := "()V" } : Jvm.MethodName) prog_5_method_1_code (2 : Nat) (Option.none : Option Jvm.ClassFile.FieldType)) ∈ pd_B := pd_in1 (tb_1 _ (List.mem_of_getElem? (i := 53) rfl)) rfl
theorem wd_1_54 : (Jvm.Cond.methodLink "PathDecoder$Received" (3 : Nat) ({ cls := "java/lang/Object", name := "<init>", desc := "()V" } : Jvm.MethodName)) ∈ pd_B := pd_in1 (tb_1 _ (List.mem_of_getElem? (i := 54) rfl)) rfl
theorem wd_1_55 : (Jvm.Cond.fieldLink "PathDecoder$Received" (9 : Nat) "PathDecoder$Received" "tableZero" "[I") ∈ pd_B := pd_in1 (tb_1 _ (List.mem_of_getElem? (i := 55) rfl)) rfl
theorem wd_1_56 : (Jvm.Cond.fieldLink "PathDecoder$Received" (15 : Nat) "PathDecoder$Received" "tableOne" "[I") ∈ pd_B := pd_in1 (tb_1 _ (List.mem_of_getElem? (i := 56) rfl)) rfl
theorem wd_1_57 : (Jvm.Cond.fieldLink "PathDecoder$Received" (18 : Nat) "PathDecoder$Received" "zero" "[I") ∈ pd_B := pd_in1 (tb_1 _ (List.mem_of_getElem? (i := 57) rfl)) rfl
theorem wd_1_58 : (Jvm.Cond.fieldLink "PathDecoder$Turns" (74 : Nat) "PathDecoder$Received" "zero" "[I") ∈ pd_B := pd_in1 (tb_1 _ (List.mem_of_getElem? (i := 58) rfl)) rfl
theorem wd_1_59 : (Jvm.Cond.fieldLink "PathDecoder" (377 : Nat) "PathDecoder$Received" "zero" "[I") ∈ pd_B := pd_in1 (tb_1 _ (List.mem_of_getElem? (i := 59) rfl)) rfl
theorem wd_1_60 : (Jvm.Cond.fieldLink "PathDecoder$Received" (21 : Nat) "PathDecoder$Received" "one" "[I") ∈ pd_B := pd_in1 (tb_1 _ (List.mem_of_getElem? (i := 60) rfl)) rfl
theorem wd_1_61 : (Jvm.Cond.fieldLink "PathDecoder$Turns" (82 : Nat) "PathDecoder$Received" "one" "[I") ∈ pd_B := pd_in1 (tb_1 _ (List.mem_of_getElem? (i := 61) rfl)) rfl
theorem wd_1_62 : (Jvm.Cond.fieldLink "PathDecoder" (380 : Nat) "PathDecoder$Received" "one" "[I") ∈ pd_B := pd_in1 (tb_1 _ (List.mem_of_getElem? (i := 62) rfl)) rfl
theorem wd_1_63 : (Jvm.Cond.laysFinal "PathDecoder$Received" "PathDecoder$Received" "tableZero" "[I") ∈ pd_B := pd_in1 (tb_1 _ (List.mem_of_getElem? (i := 63) rfl)) rfl
theorem wd_1_65 : (Jvm.Cond.laysFinal "PathDecoder$Received" "PathDecoder$Received" "tableOne" "[I") ∈ pd_B := pd_in1 (tb_1 _ (List.mem_of_getElem? (i := 65) rfl)) rfl
theorem wd_1_67 : (Jvm.Cond.laysFinal "PathDecoder$Received" "PathDecoder$Received" "zero" "[I") ∈ pd_B := pd_in1 (tb_1 _ (List.mem_of_getElem? (i := 67) rfl)) rfl
theorem wd_1_69 : (Jvm.Cond.laysFinal "PathDecoder$Received" "PathDecoder$Received" "one" "[I") ∈ pd_B := pd_in1 (tb_1 _ (List.mem_of_getElem? (i := 69) rfl)) rfl
theorem wd_1_72 : (Jvm.Cond.classLink "PathDecoder" (39 : Nat) "PathDecoder$Lattice") ∈ pd_B := pd_in1 (tb_1 _ (List.mem_of_getElem? (i := 72) rfl)) rfl
theorem wd_1_73 : (Jvm.Cond.instantiable "PathDecoder$Lattice" (5 : Nat)) ∈ pd_B := pd_in1 (tb_1 _ (List.mem_of_getElem? (i := 73) rfl)) rfl
theorem wd_1_75 : (Jvm.Cond.instanceMethod ({ cls := "PathDecoder$Lattice", name := "<init>", desc := "()V" } : Jvm.MethodName)) ∈ pd_B := pd_in1 (tb_1 _ (List.mem_of_getElem? (i := 75) rfl)) rfl
theorem wd_1_76 : (Jvm.Cond.code ({ cls := "PathDecoder$Lattice", name := "<init>", desc := "()V" } : Jvm.MethodName) prog_3_method_1_code (1 : Nat) (Option.none : Option Jvm.ClassFile.FieldType)) ∈ pd_B := pd_in1 (tb_1 _ (List.mem_of_getElem? (i := 76) rfl)) rfl
theorem wd_1_77 : (Jvm.Cond.methodLink "PathDecoder$Lattice" (3 : Nat) ({ cls := "java/lang/Object", name := "<init>", desc := "()V" } : Jvm.MethodName)) ∈ pd_B := pd_in1 (tb_1 _ (List.mem_of_getElem? (i := 77) rfl)) rfl
theorem wd_1_78 : (Jvm.Cond.fieldLink "PathDecoder$Lattice" (9 : Nat) "PathDecoder$Lattice" "next" "[I") ∈ pd_B := pd_in1 (tb_1 _ (List.mem_of_getElem? (i := 78) rfl)) rfl
theorem wd_1_79 : (Jvm.Cond.fieldLink "PathDecoder$Spectrum" (47 : Nat) "PathDecoder$Lattice" "next" "[I") ∈ pd_B := pd_in1 (tb_1 _ (List.mem_of_getElem? (i := 79) rfl)) rfl
theorem wd_1_80 : (Jvm.Cond.fieldLink "PathDecoder$Seeming" (58 : Nat) "PathDecoder$Lattice" "next" "[I") ∈ pd_B := pd_in1 (tb_1 _ (List.mem_of_getElem? (i := 80) rfl)) rfl
theorem wd_1_81 : (Jvm.Cond.fieldLink "PathDecoder$Search" (91 : Nat) "PathDecoder$Lattice" "next" "[I") ∈ pd_B := pd_in1 (tb_1 _ (List.mem_of_getElem? (i := 81) rfl)) rfl
theorem wd_1_82 : (Jvm.Cond.fieldLink "PathDecoder$Lattice" (15 : Nat) "PathDecoder$Lattice" "word" "[I") ∈ pd_B := pd_in1 (tb_1 _ (List.mem_of_getElem? (i := 82) rfl)) rfl
theorem wd_1_83 : (Jvm.Cond.fieldLink "PathDecoder$Spectrum" (33 : Nat) "PathDecoder$Lattice" "word" "[I") ∈ pd_B := pd_in1 (tb_1 _ (List.mem_of_getElem? (i := 83) rfl)) rfl
theorem wd_1_84 : (Jvm.Cond.fieldLink "PathDecoder$Lattice" (18 : Nat) "PathDecoder$Lattice" "ends" "[I") ∈ pd_B := pd_in1 (tb_1 _ (List.mem_of_getElem? (i := 84) rfl)) rfl
theorem wd_1_85 : (Jvm.Cond.fieldLink "PathDecoder$Seeming" (70 : Nat) "PathDecoder$Lattice" "ends" "[I") ∈ pd_B := pd_in1 (tb_1 _ (List.mem_of_getElem? (i := 85) rfl)) rfl
theorem wd_1_86 : (Jvm.Cond.fieldLink "PathDecoder$Search" (84 : Nat) "PathDecoder$Lattice" "ends" "[I") ∈ pd_B := pd_in1 (tb_1 _ (List.mem_of_getElem? (i := 86) rfl)) rfl
theorem wd_1_87 : (Jvm.Cond.fieldLink "PathDecoder$Lattice" (21 : Nat) "PathDecoder$Lattice" "states" "I") ∈ pd_B := pd_in1 (tb_1 _ (List.mem_of_getElem? (i := 87) rfl)) rfl
theorem wd_1_88 : (Jvm.Cond.fieldLink "PathDecoder$Seeming" (54 : Nat) "PathDecoder$Lattice" "states" "I") ∈ pd_B := pd_in1 (tb_1 _ (List.mem_of_getElem? (i := 88) rfl)) rfl
theorem wd_1_89 : (Jvm.Cond.fieldLink "PathDecoder$Spectrum" (54 : Nat) "PathDecoder$Lattice" "states" "I") ∈ pd_B := pd_in1 (tb_1 _ (List.mem_of_getElem? (i := 89) rfl)) rfl
theorem wd_1_90 : (Jvm.Cond.fieldLink "PathDecoder$Search" (80 : Nat) "PathDecoder$Lattice" "states" "I") ∈ pd_B := pd_in1 (tb_1 _ (List.mem_of_getElem? (i := 90) rfl)) rfl
theorem wd_1_91 : (Jvm.Cond.fieldLink "PathDecoder$Lattice" (25 : Nat) "PathDecoder$Lattice" "prices" "[I") ∈ pd_B := pd_in1 (tb_1 _ (List.mem_of_getElem? (i := 91) rfl)) rfl
theorem wd_1_92 : (Jvm.Cond.laysFinal "PathDecoder$Lattice" "PathDecoder$Lattice" "next" "[I") ∈ pd_B := pd_in1 (tb_1 _ (List.mem_of_getElem? (i := 92) rfl)) rfl
theorem wd_1_94 : (Jvm.Cond.laysFinal "PathDecoder$Lattice" "PathDecoder$Lattice" "word" "[I") ∈ pd_B := pd_in1 (tb_1 _ (List.mem_of_getElem? (i := 94) rfl)) rfl
theorem wd_1_96 : (Jvm.Cond.laysFinal "PathDecoder$Lattice" "PathDecoder$Lattice" "ends" "[I") ∈ pd_B := pd_in1 (tb_1 _ (List.mem_of_getElem? (i := 96) rfl)) rfl
theorem wd_1_98 : (Jvm.Cond.lays "PathDecoder$Lattice" "PathDecoder$Lattice" "states" "I") ∈ pd_B := pd_in1 (tb_1 _ (List.mem_of_getElem? (i := 98) rfl)) rfl
theorem wd_1_100 : (Jvm.Cond.laysFinal "PathDecoder$Lattice" "PathDecoder$Lattice" "prices" "[I") ∈ pd_B := pd_in1 (tb_1 _ (List.mem_of_getElem? (i := 100) rfl)) rfl
theorem wd_1_103 : (Jvm.Cond.classLink "PathDecoder" (46 : Nat) "PathDecoder$Ways") ∈ pd_B := pd_in1 (tb_1 _ (List.mem_of_getElem? (i := 103) rfl)) rfl
theorem wd_1_104 : (Jvm.Cond.instantiable "PathDecoder$Ways" (3 : Nat)) ∈ pd_B := pd_in1 (tb_1 _ (List.mem_of_getElem? (i := 104) rfl)) rfl
theorem wd_1_105 : (Jvm.Cond.methodLink "PathDecoder" (48 : Nat) ({ cls := "PathDecoder$Ways", name := "<init>", desc := "()V" } : Jvm.MethodName)) ∈ pd_B := pd_in1 (tb_1 _ (List.mem_of_getElem? (i := 105) rfl)) rfl
theorem wd_1_106 : (Jvm.Cond.instanceMethod ({ cls := "PathDecoder$Ways", name := "<init>", desc := "()V" } : Jvm.MethodName)) ∈ pd_B := pd_in1 (tb_1 _ (List.mem_of_getElem? (i := 106) rfl)) rfl
theorem wd_1_107 : (Jvm.Cond.code ({ cls := "PathDecoder$Ways", name := "<init>", desc := "()V" } : Jvm.MethodName) prog_12_method_1_code (2 : Nat) (Option.none : Option Jvm.ClassFile.FieldType)) ∈ pd_B := pd_in1 (tb_1 _ (List.mem_of_getElem? (i := 107) rfl)) rfl
theorem wd_1_108 : (Jvm.Cond.methodLink "PathDecoder$Ways" (3 : Nat) ({ cls := "java/lang/Object", name := "<init>", desc := "()V" } : Jvm.MethodName)) ∈ pd_B := pd_in1 (tb_1 _ (List.mem_of_getElem? (i := 108) rfl)) rfl
theorem wd_1_109 : (Jvm.Cond.classLink "PathDecoder$Ways" (9 : Nat) "PathDecoder$Way") ∈ pd_B := pd_in1 (tb_1 _ (List.mem_of_getElem? (i := 109) rfl)) rfl
theorem wd_1_111 : (Jvm.Cond.instantiable "PathDecoder$Way" (4 : Nat)) ∈ pd_B := pd_in1 (tb_1 _ (List.mem_of_getElem? (i := 111) rfl)) rfl
theorem wd_1_113 : (Jvm.Cond.instanceMethod ({ cls := "PathDecoder$Way", name := "<init>", desc := "()V" } : Jvm.MethodName)) ∈ pd_B := pd_in1 (tb_1 _ (List.mem_of_getElem? (i := 113) rfl)) rfl
theorem wd_1_114 : (Jvm.Cond.code ({ cls := "PathDecoder$Way", name := "<init>", desc := "()V" } : Jvm.MethodName) prog_11_method_1_code (1 : Nat) (Option.none : Option Jvm.ClassFile.FieldType)) ∈ pd_B := pd_in1 (tb_1 _ (List.mem_of_getElem? (i := 114) rfl)) rfl
theorem wd_1_115 : (Jvm.Cond.methodLink "PathDecoder$Way" (3 : Nat) ({ cls := "java/lang/Object", name := "<init>", desc := "()V" } : Jvm.MethodName)) ∈ pd_B := pd_in1 (tb_1 _ (List.mem_of_getElem? (i := 115) rfl)) rfl
theorem wd_1_116 : (Jvm.Cond.fieldLink "PathDecoder$Way" (9 : Nat) "PathDecoder$Way" "cost" "I") ∈ pd_B := pd_in1 (tb_1 _ (List.mem_of_getElem? (i := 116) rfl)) rfl
theorem wd_1_117 : (Jvm.Cond.fieldLink "PathDecoder" (257 : Nat) "PathDecoder$Way" "cost" "I") ∈ pd_B := pd_in1 (tb_1 _ (List.mem_of_getElem? (i := 117) rfl)) rfl
theorem wd_1_118 : (Jvm.Cond.fieldLink "PathDecoder$Way" (15 : Nat) "PathDecoder$Way" "beginning" "I") ∈ pd_B := pd_in1 (tb_1 _ (List.mem_of_getElem? (i := 118) rfl)) rfl
theorem wd_1_119 : (Jvm.Cond.fieldLink "PathDecoder" (319 : Nat) "PathDecoder$Way" "beginning" "I") ∈ pd_B := pd_in1 (tb_1 _ (List.mem_of_getElem? (i := 119) rfl)) rfl
theorem wd_1_120 : (Jvm.Cond.fieldLink "PathDecoder$Way" (18 : Nat) "PathDecoder$Way" "size" "I") ∈ pd_B := pd_in1 (tb_1 _ (List.mem_of_getElem? (i := 120) rfl)) rfl
theorem wd_1_121 : (Jvm.Cond.fieldLink "PathDecoder" (315 : Nat) "PathDecoder$Way" "size" "I") ∈ pd_B := pd_in1 (tb_1 _ (List.mem_of_getElem? (i := 121) rfl)) rfl
theorem wd_1_122 : (Jvm.Cond.fieldLink "PathDecoder$Way" (21 : Nat) "PathDecoder$Way" "bits" "[B") ∈ pd_B := pd_in1 (tb_1 _ (List.mem_of_getElem? (i := 122) rfl)) rfl
theorem wd_1_123 : (Jvm.Cond.fieldLink "PathDecoder$Search" (107 : Nat) "PathDecoder$Way" "bits" "[B") ∈ pd_B := pd_in1 (tb_1 _ (List.mem_of_getElem? (i := 123) rfl)) rfl
theorem wd_1_124 : (Jvm.Cond.fieldLink "PathDecoder" (303 : Nat) "PathDecoder$Way" "bits" "[B") ∈ pd_B := pd_in1 (tb_1 _ (List.mem_of_getElem? (i := 124) rfl)) rfl
theorem wd_1_125 : (Jvm.Cond.lays "PathDecoder$Way" "PathDecoder$Way" "cost" "I") ∈ pd_B := pd_in1 (tb_1 _ (List.mem_of_getElem? (i := 125) rfl)) rfl
theorem wd_1_127 : (Jvm.Cond.lays "PathDecoder$Way" "PathDecoder$Way" "beginning" "I") ∈ pd_B := pd_in1 (tb_1 _ (List.mem_of_getElem? (i := 127) rfl)) rfl
theorem wd_1_129 : (Jvm.Cond.lays "PathDecoder$Way" "PathDecoder$Way" "size" "I") ∈ pd_B := pd_in1 (tb_1 _ (List.mem_of_getElem? (i := 129) rfl)) rfl
theorem wd_1_131 : (Jvm.Cond.laysFinal "PathDecoder$Way" "PathDecoder$Way" "bits" "[B") ∈ pd_B := pd_in1 (tb_1 _ (List.mem_of_getElem? (i := 131) rfl)) rfl
theorem wd_1_134 : (Jvm.Cond.arrayClass Jvm.ClassFile.FieldType.byte) ∈ pd_B := pd_in1 (tb_1 _ (List.mem_of_getElem? (i := 134) rfl)) rfl
theorem wd_1_135 : (Jvm.Cond.fieldLink "PathDecoder$Ways" (11 : Nat) "PathDecoder$Ways" "ways" "[LPathDecoder$Way;") ∈ pd_B := pd_in1 (tb_1 _ (List.mem_of_getElem? (i := 135) rfl)) rfl
theorem wd_1_136 : (Jvm.Cond.fieldLink "PathDecoder$Ways" (17 : Nat) "PathDecoder$Ways" "count" "I") ∈ pd_B := pd_in1 (tb_1 _ (List.mem_of_getElem? (i := 136) rfl)) rfl
theorem wd_1_137 : (Jvm.Cond.fieldLink "PathDecoder$Ways" (21 : Nat) "PathDecoder$Ways" "most" "I") ∈ pd_B := pd_in1 (tb_1 _ (List.mem_of_getElem? (i := 137) rfl)) rfl
theorem wd_1_138 : (Jvm.Cond.laysFinal "PathDecoder$Ways" "PathDecoder$Ways" "ways" "[LPathDecoder$Way;") ∈ pd_B := pd_in1 (tb_1 _ (List.mem_of_getElem? (i := 138) rfl)) rfl
theorem wd_1_140 : (Jvm.Cond.lays "PathDecoder$Ways" "PathDecoder$Ways" "count" "I") ∈ pd_B := pd_in1 (tb_1 _ (List.mem_of_getElem? (i := 140) rfl)) rfl
theorem wd_1_142 : (Jvm.Cond.lays "PathDecoder$Ways" "PathDecoder$Ways" "most" "I") ∈ pd_B := pd_in1 (tb_1 _ (List.mem_of_getElem? (i := 142) rfl)) rfl
theorem wd_1_145 : (Jvm.Cond.classLink "PathDecoder" (53 : Nat) "PathDecoder$Search") ∈ pd_B := pd_in1 (tb_1 _ (List.mem_of_getElem? (i := 145) rfl)) rfl
theorem wd_1_146 : (Jvm.Cond.instantiable "PathDecoder$Search" (8 : Nat)) ∈ pd_B := pd_in1 (tb_1 _ (List.mem_of_getElem? (i := 146) rfl)) rfl
theorem wd_1_147 : (Jvm.Cond.methodLink "PathDecoder" (55 : Nat) ({ cls := "PathDecoder$Search", name := "<init>", desc := "(LPathDecoder$Lattice;LPathDecoder$Ways;)V" } : Jvm.MethodName)) ∈ pd_B := pd_in1 (tb_1 _ (List.mem_of_getElem? (i := 147) rfl)) rfl
theorem wd_1_148 : (Jvm.Cond.instanceMethod ({ cls := "PathDecoder$Search", name := "<init>", desc := "(LPathDecoder$Lattice;LPathDecoder$Ways;)V" } : Jvm.MethodName)) ∈ pd_B := pd_in1 (tb_1 _ (List.mem_of_getElem? (i := 148) rfl)) rfl
theorem wd_1_149 : (Jvm.Cond.code ({ cls := "PathDecoder$Search", name := "<init>", desc := "(LPathDecoder$Lattice;LPathDecoder$Ways;)V" } : Jvm.MethodName) prog_7_method_1_code (3 : Nat) (Option.none : Option Jvm.ClassFile.FieldType)) ∈ pd_B := pd_in1 (tb_1 _ (List.mem_of_getElem? (i := 149) rfl)) rfl
theorem wd_1_150 : (Jvm.Cond.methodLink "PathDecoder$Search" (3 : Nat) ({ cls := "java/lang/Object", name := "<init>", desc := "()V" } : Jvm.MethodName)) ∈ pd_B := pd_in1 (tb_1 _ (List.mem_of_getElem? (i := 150) rfl)) rfl
theorem wd_1_151 : (Jvm.Cond.constant "PathDecoder$Search" (24 : Nat) (102400 : Int32)) ∈ pd_B := pd_in1 (tb_1 _ (List.mem_of_getElem? (i := 151) rfl)) rfl
theorem wd_1_152 : (Jvm.Cond.fieldLink "PathDecoder$Search" (32 : Nat) "PathDecoder$Search" "lattice" "LPathDecoder$Lattice;") ∈ pd_B := pd_in1 (tb_1 _ (List.mem_of_getElem? (i := 152) rfl)) rfl
theorem wd_1_153 : (Jvm.Cond.fieldLink "PathDecoder$Search" (36 : Nat) "PathDecoder$Search" "ways" "LPathDecoder$Ways;") ∈ pd_B := pd_in1 (tb_1 _ (List.mem_of_getElem? (i := 153) rfl)) rfl
theorem wd_1_154 : (Jvm.Cond.fieldLink "PathDecoder$Search" (9 : Nat) "PathDecoder$Search" "now" "[I") ∈ pd_B := pd_in1 (tb_1 _ (List.mem_of_getElem? (i := 154) rfl)) rfl
theorem wd_1_155 : (Jvm.Cond.fieldLink "PathDecoder$Search" (15 : Nat) "PathDecoder$Search" "later" "[I") ∈ pd_B := pd_in1 (tb_1 _ (List.mem_of_getElem? (i := 155) rfl)) rfl
theorem wd_1_156 : (Jvm.Cond.fieldLink "PathDecoder$Search" (18 : Nat) "PathDecoder$Search" "nowCount" "[I") ∈ pd_B := pd_in1 (tb_1 _ (List.mem_of_getElem? (i := 156) rfl)) rfl
theorem wd_1_157 : (Jvm.Cond.fieldLink "PathDecoder$Search" (21 : Nat) "PathDecoder$Search" "laterCount" "[I") ∈ pd_B := pd_in1 (tb_1 _ (List.mem_of_getElem? (i := 157) rfl)) rfl
theorem wd_1_158 : (Jvm.Cond.fieldLink "PathDecoder$Search" (25 : Nat) "PathDecoder$Search" "onward" "[B") ∈ pd_B := pd_in1 (tb_1 _ (List.mem_of_getElem? (i := 158) rfl)) rfl
theorem wd_1_159 : (Jvm.Cond.fieldLink "PathDecoder$Search" (29 : Nat) "PathDecoder$Search" "origin" "[B") ∈ pd_B := pd_in1 (tb_1 _ (List.mem_of_getElem? (i := 159) rfl)) rfl
theorem wd_1_160 : (Jvm.Cond.laysFinal "PathDecoder$Search" "PathDecoder$Search" "lattice" "LPathDecoder$Lattice;") ∈ pd_B := pd_in1 (tb_1 _ (List.mem_of_getElem? (i := 160) rfl)) rfl
theorem wd_1_162 : (Jvm.Cond.laysFinal "PathDecoder$Search" "PathDecoder$Search" "ways" "LPathDecoder$Ways;") ∈ pd_B := pd_in1 (tb_1 _ (List.mem_of_getElem? (i := 162) rfl)) rfl
theorem wd_1_164 : (Jvm.Cond.lays "PathDecoder$Search" "PathDecoder$Search" "now" "[I") ∈ pd_B := pd_in1 (tb_1 _ (List.mem_of_getElem? (i := 164) rfl)) rfl
theorem wd_1_166 : (Jvm.Cond.lays "PathDecoder$Search" "PathDecoder$Search" "later" "[I") ∈ pd_B := pd_in1 (tb_1 _ (List.mem_of_getElem? (i := 166) rfl)) rfl
theorem wd_1_168 : (Jvm.Cond.lays "PathDecoder$Search" "PathDecoder$Search" "nowCount" "[I") ∈ pd_B := pd_in1 (tb_1 _ (List.mem_of_getElem? (i := 168) rfl)) rfl
theorem wd_1_170 : (Jvm.Cond.lays "PathDecoder$Search" "PathDecoder$Search" "laterCount" "[I") ∈ pd_B := pd_in1 (tb_1 _ (List.mem_of_getElem? (i := 170) rfl)) rfl
theorem wd_1_172 : (Jvm.Cond.laysFinal "PathDecoder$Search" "PathDecoder$Search" "onward" "[B") ∈ pd_B := pd_in1 (tb_1 _ (List.mem_of_getElem? (i := 172) rfl)) rfl
theorem wd_1_174 : (Jvm.Cond.laysFinal "PathDecoder$Search" "PathDecoder$Search" "origin" "[B") ∈ pd_B := pd_in1 (tb_1 _ (List.mem_of_getElem? (i := 174) rfl)) rfl
theorem wd_1_177 : (Jvm.Cond.classLink "PathDecoder" (62 : Nat) "PathDecoder$Seeming") ∈ pd_B := pd_in1 (tb_1 _ (List.mem_of_getElem? (i := 177) rfl)) rfl
theorem wd_1_178 : (Jvm.Cond.instantiable "PathDecoder$Seeming" (6 : Nat)) ∈ pd_B := pd_in1 (tb_1 _ (List.mem_of_getElem? (i := 178) rfl)) rfl
theorem wd_1_179 : (Jvm.Cond.methodLink "PathDecoder" (64 : Nat) ({ cls := "PathDecoder$Seeming", name := "<init>", desc := "(LPathDecoder$Lattice;)V" } : Jvm.MethodName)) ∈ pd_B := pd_in1 (tb_1 _ (List.mem_of_getElem? (i := 179) rfl)) rfl
theorem wd_1_180 : (Jvm.Cond.instanceMethod ({ cls := "PathDecoder$Seeming", name := "<init>", desc := "(LPathDecoder$Lattice;)V" } : Jvm.MethodName)) ∈ pd_B := pd_in1 (tb_1 _ (List.mem_of_getElem? (i := 180) rfl)) rfl
theorem wd_1_181 : (Jvm.Cond.code ({ cls := "PathDecoder$Seeming", name := "<init>", desc := "(LPathDecoder$Lattice;)V" } : Jvm.MethodName) prog_8_method_1_code (2 : Nat) (Option.none : Option Jvm.ClassFile.FieldType)) ∈ pd_B := pd_in1 (tb_1 _ (List.mem_of_getElem? (i := 181) rfl)) rfl
theorem wd_1_182 : (Jvm.Cond.methodLink "PathDecoder$Seeming" (3 : Nat) ({ cls := "java/lang/Object", name := "<init>", desc := "()V" } : Jvm.MethodName)) ∈ pd_B := pd_in1 (tb_1 _ (List.mem_of_getElem? (i := 182) rfl)) rfl
theorem wd_1_183 : (Jvm.Cond.fieldLink "PathDecoder$Seeming" (27 : Nat) "PathDecoder$Seeming" "lattice" "LPathDecoder$Lattice;") ∈ pd_B := pd_in1 (tb_1 _ (List.mem_of_getElem? (i := 183) rfl)) rfl
theorem wd_1_184 : (Jvm.Cond.fieldLink "PathDecoder$Seeming" (9 : Nat) "PathDecoder$Seeming" "reached" "[I") ∈ pd_B := pd_in1 (tb_1 _ (List.mem_of_getElem? (i := 184) rfl)) rfl
theorem wd_1_185 : (Jvm.Cond.fieldLink "PathDecoder$Seeming" (15 : Nat) "PathDecoder$Seeming" "onward" "[I") ∈ pd_B := pd_in1 (tb_1 _ (List.mem_of_getElem? (i := 185) rfl)) rfl
theorem wd_1_186 : (Jvm.Cond.fieldLink "PathDecoder$Seeming" (18 : Nat) "PathDecoder$Seeming" "further" "[I") ∈ pd_B := pd_in1 (tb_1 _ (List.mem_of_getElem? (i := 186) rfl)) rfl
theorem wd_1_187 : (Jvm.Cond.fieldLink "PathDecoder$Seeming" (21 : Nat) "PathDecoder$Seeming" "leastZero" "[I") ∈ pd_B := pd_in1 (tb_1 _ (List.mem_of_getElem? (i := 187) rfl)) rfl
theorem wd_1_188 : (Jvm.Cond.fieldLink "PathDecoder$Seeming" (24 : Nat) "PathDecoder$Seeming" "leastOne" "[I") ∈ pd_B := pd_in1 (tb_1 _ (List.mem_of_getElem? (i := 188) rfl)) rfl
theorem wd_1_189 : (Jvm.Cond.laysFinal "PathDecoder$Seeming" "PathDecoder$Seeming" "lattice" "LPathDecoder$Lattice;") ∈ pd_B := pd_in1 (tb_1 _ (List.mem_of_getElem? (i := 189) rfl)) rfl
theorem wd_1_191 : (Jvm.Cond.laysFinal "PathDecoder$Seeming" "PathDecoder$Seeming" "reached" "[I") ∈ pd_B := pd_in1 (tb_1 _ (List.mem_of_getElem? (i := 191) rfl)) rfl
theorem wd_1_193 : (Jvm.Cond.lays "PathDecoder$Seeming" "PathDecoder$Seeming" "onward" "[I") ∈ pd_B := pd_in1 (tb_1 _ (List.mem_of_getElem? (i := 193) rfl)) rfl
theorem wd_1_195 : (Jvm.Cond.lays "PathDecoder$Seeming" "PathDecoder$Seeming" "further" "[I") ∈ pd_B := pd_in1 (tb_1 _ (List.mem_of_getElem? (i := 195) rfl)) rfl
theorem wd_1_197 : (Jvm.Cond.laysFinal "PathDecoder$Seeming" "PathDecoder$Seeming" "leastZero" "[I") ∈ pd_B := pd_in1 (tb_1 _ (List.mem_of_getElem? (i := 197) rfl)) rfl
theorem wd_1_199 : (Jvm.Cond.laysFinal "PathDecoder$Seeming" "PathDecoder$Seeming" "leastOne" "[I") ∈ pd_B := pd_in1 (tb_1 _ (List.mem_of_getElem? (i := 199) rfl)) rfl
theorem wd_1_202 : (Jvm.Cond.classLink "PathDecoder" (71 : Nat) "PathDecoder$Turns") ∈ pd_B := pd_in1 (tb_1 _ (List.mem_of_getElem? (i := 202) rfl)) rfl
theorem wd_1_203 : (Jvm.Cond.instantiable "PathDecoder$Turns" (8 : Nat)) ∈ pd_B := pd_in1 (tb_1 _ (List.mem_of_getElem? (i := 203) rfl)) rfl
theorem wd_1_204 : (Jvm.Cond.methodLink "PathDecoder" (73 : Nat) ({ cls := "PathDecoder$Turns", name := "<init>", desc := "(LPathDecoder$Received;LPathDecoder$Lattice;LPathDecoder$Seeming;)V" } : Jvm.MethodName)) ∈ pd_B := pd_in1 (tb_1 _ (List.mem_of_getElem? (i := 204) rfl)) rfl
theorem wd_1_205 : (Jvm.Cond.instanceMethod ({ cls := "PathDecoder$Turns", name := "<init>", desc := "(LPathDecoder$Received;LPathDecoder$Lattice;LPathDecoder$Seeming;)V" } : Jvm.MethodName)) ∈ pd_B := pd_in1 (tb_1 _ (List.mem_of_getElem? (i := 205) rfl)) rfl
theorem wd_1_206 : (Jvm.Cond.code ({ cls := "PathDecoder$Turns", name := "<init>", desc := "(LPathDecoder$Received;LPathDecoder$Lattice;LPathDecoder$Seeming;)V" } : Jvm.MethodName) prog_10_method_1_code (4 : Nat) (Option.none : Option Jvm.ClassFile.FieldType)) ∈ pd_B := pd_in1 (tb_1 _ (List.mem_of_getElem? (i := 206) rfl)) rfl
theorem wd_1_207 : (Jvm.Cond.methodLink "PathDecoder$Turns" (3 : Nat) ({ cls := "java/lang/Object", name := "<init>", desc := "()V" } : Jvm.MethodName)) ∈ pd_B := pd_in1 (tb_1 _ (List.mem_of_getElem? (i := 207) rfl)) rfl
theorem wd_1_208 : (Jvm.Cond.fieldLink "PathDecoder$Turns" (28 : Nat) "PathDecoder$Turns" "received" "LPathDecoder$Received;") ∈ pd_B := pd_in1 (tb_1 _ (List.mem_of_getElem? (i := 208) rfl)) rfl
theorem wd_1_209 : (Jvm.Cond.fieldLink "PathDecoder$Turns" (32 : Nat) "PathDecoder$Turns" "lattice" "LPathDecoder$Lattice;") ∈ pd_B := pd_in1 (tb_1 _ (List.mem_of_getElem? (i := 209) rfl)) rfl
theorem wd_1_210 : (Jvm.Cond.fieldLink "PathDecoder$Turns" (36 : Nat) "PathDecoder$Turns" "seeming" "LPathDecoder$Seeming;") ∈ pd_B := pd_in1 (tb_1 _ (List.mem_of_getElem? (i := 210) rfl)) rfl
theorem wd_1_211 : (Jvm.Cond.fieldLink "PathDecoder$Turns" (9 : Nat) "PathDecoder$Turns" "news" "[I") ∈ pd_B := pd_in1 (tb_1 _ (List.mem_of_getElem? (i := 211) rfl)) rfl
theorem wd_1_212 : (Jvm.Cond.fieldLink "PathDecoder$Turns" (15 : Nat) "PathDecoder$Turns" "byStep" "[I") ∈ pd_B := pd_in1 (tb_1 _ (List.mem_of_getElem? (i := 212) rfl)) rfl
theorem wd_1_213 : (Jvm.Cond.fieldLink "PathDecoder$Turns" (18 : Nat) "PathDecoder$Turns" "first" "[I") ∈ pd_B := pd_in1 (tb_1 _ (List.mem_of_getElem? (i := 213) rfl)) rfl
theorem wd_1_214 : (Jvm.Cond.fieldLink "PathDecoder$Turns" (21 : Nat) "PathDecoder$Turns" "second" "[I") ∈ pd_B := pd_in1 (tb_1 _ (List.mem_of_getElem? (i := 214) rfl)) rfl
theorem wd_1_215 : (Jvm.Cond.fieldLink "PathDecoder$Turns" (24 : Nat) "PathDecoder$Turns" "agree" "Z") ∈ pd_B := pd_in1 (tb_1 _ (List.mem_of_getElem? (i := 215) rfl)) rfl
theorem wd_1_216 : (Jvm.Cond.laysFinal "PathDecoder$Turns" "PathDecoder$Turns" "received" "LPathDecoder$Received;") ∈ pd_B := pd_in1 (tb_1 _ (List.mem_of_getElem? (i := 216) rfl)) rfl
theorem wd_1_218 : (Jvm.Cond.laysFinal "PathDecoder$Turns" "PathDecoder$Turns" "lattice" "LPathDecoder$Lattice;") ∈ pd_B := pd_in1 (tb_1 _ (List.mem_of_getElem? (i := 218) rfl)) rfl
theorem wd_1_220 : (Jvm.Cond.laysFinal "PathDecoder$Turns" "PathDecoder$Turns" "seeming" "LPathDecoder$Seeming;") ∈ pd_B := pd_in1 (tb_1 _ (List.mem_of_getElem? (i := 220) rfl)) rfl
theorem wd_1_222 : (Jvm.Cond.laysFinal "PathDecoder$Turns" "PathDecoder$Turns" "news" "[I") ∈ pd_B := pd_in1 (tb_1 _ (List.mem_of_getElem? (i := 222) rfl)) rfl
theorem wd_1_224 : (Jvm.Cond.laysFinal "PathDecoder$Turns" "PathDecoder$Turns" "byStep" "[I") ∈ pd_B := pd_in1 (tb_1 _ (List.mem_of_getElem? (i := 224) rfl)) rfl
theorem wd_1_226 : (Jvm.Cond.laysFinal "PathDecoder$Turns" "PathDecoder$Turns" "first" "[I") ∈ pd_B := pd_in1 (tb_1 _ (List.mem_of_getElem? (i := 226) rfl)) rfl
theorem wd_1_228 : (Jvm.Cond.laysFinal "PathDecoder$Turns" "PathDecoder$Turns" "second" "[I") ∈ pd_B := pd_in1 (tb_1 _ (List.mem_of_getElem? (i := 228) rfl)) rfl
theorem wd_1_230 : (Jvm.Cond.lays "PathDecoder$Turns" "PathDecoder$Turns" "agree" "Z") ∈ pd_B := pd_in1 (tb_1 _ (List.mem_of_getElem? (i := 230) rfl)) rfl
theorem wd_1_233 : (Jvm.Cond.classLink "PathDecoder" (80 : Nat) "PathDecoder$Spectrum") ∈ pd_B := pd_in1 (tb_1 _ (List.mem_of_getElem? (i := 233) rfl)) rfl
theorem wd_1_234 : (Jvm.Cond.instantiable "PathDecoder$Spectrum" (6 : Nat)) ∈ pd_B := pd_in1 (tb_1 _ (List.mem_of_getElem? (i := 234) rfl)) rfl
theorem wd_1_235 : (Jvm.Cond.methodLink "PathDecoder" (82 : Nat) ({ cls := "PathDecoder$Spectrum", name := "<init>", desc := "(LPathDecoder$Lattice;)V" } : Jvm.MethodName)) ∈ pd_B := pd_in1 (tb_1 _ (List.mem_of_getElem? (i := 235) rfl)) rfl
theorem wd_1_236 : (Jvm.Cond.instanceMethod ({ cls := "PathDecoder$Spectrum", name := "<init>", desc := "(LPathDecoder$Lattice;)V" } : Jvm.MethodName)) ∈ pd_B := pd_in1 (tb_1 _ (List.mem_of_getElem? (i := 236) rfl)) rfl
theorem wd_1_237 : (Jvm.Cond.code ({ cls := "PathDecoder$Spectrum", name := "<init>", desc := "(LPathDecoder$Lattice;)V" } : Jvm.MethodName) prog_9_method_1_code (2 : Nat) (Option.none : Option Jvm.ClassFile.FieldType)) ∈ pd_B := pd_in1 (tb_1 _ (List.mem_of_getElem? (i := 237) rfl)) rfl
theorem wd_1_238 : (Jvm.Cond.methodLink "PathDecoder$Spectrum" (3 : Nat) ({ cls := "java/lang/Object", name := "<init>", desc := "()V" } : Jvm.MethodName)) ∈ pd_B := pd_in1 (tb_1 _ (List.mem_of_getElem? (i := 238) rfl)) rfl
theorem wd_1_239 : (Jvm.Cond.fieldLink "PathDecoder$Spectrum" (29 : Nat) "PathDecoder$Spectrum" "lattice" "LPathDecoder$Lattice;") ∈ pd_B := pd_in1 (tb_1 _ (List.mem_of_getElem? (i := 239) rfl)) rfl
theorem wd_2_0 : (Jvm.Cond.fieldLink "PathDecoder$Spectrum" (9 : Nat) "PathDecoder$Spectrum" "order" "[I") ∈ pd_B := pd_in1 (tb_2 _ (List.mem_of_getElem? (i := 0) rfl)) rfl
theorem wd_2_1 : (Jvm.Cond.fieldLink "PathDecoder$Spectrum" (15 : Nat) "PathDecoder$Spectrum" "orderCount" "I") ∈ pd_B := pd_in1 (tb_2 _ (List.mem_of_getElem? (i := 1) rfl)) rfl
theorem wd_2_2 : (Jvm.Cond.fieldLink "PathDecoder$Spectrum" (19 : Nat) "PathDecoder$Spectrum" "waiting" "[I") ∈ pd_B := pd_in1 (tb_2 _ (List.mem_of_getElem? (i := 2) rfl)) rfl
theorem wd_2_3 : (Jvm.Cond.fieldLink "PathDecoder$Spectrum" (22 : Nat) "PathDecoder$Spectrum" "least" "[I") ∈ pd_B := pd_in1 (tb_2 _ (List.mem_of_getElem? (i := 3) rfl)) rfl
theorem wd_2_4 : (Jvm.Cond.fieldLink "PathDecoder$Spectrum" (25 : Nat) "PathDecoder$Spectrum" "counts" "[J") ∈ pd_B := pd_in1 (tb_2 _ (List.mem_of_getElem? (i := 4) rfl)) rfl
theorem wd_2_5 : (Jvm.Cond.laysFinal "PathDecoder$Spectrum" "PathDecoder$Spectrum" "lattice" "LPathDecoder$Lattice;") ∈ pd_B := pd_in1 (tb_2 _ (List.mem_of_getElem? (i := 5) rfl)) rfl
theorem wd_2_7 : (Jvm.Cond.laysFinal "PathDecoder$Spectrum" "PathDecoder$Spectrum" "order" "[I") ∈ pd_B := pd_in1 (tb_2 _ (List.mem_of_getElem? (i := 7) rfl)) rfl
theorem wd_2_9 : (Jvm.Cond.lays "PathDecoder$Spectrum" "PathDecoder$Spectrum" "orderCount" "I") ∈ pd_B := pd_in1 (tb_2 _ (List.mem_of_getElem? (i := 9) rfl)) rfl
theorem wd_2_11 : (Jvm.Cond.laysFinal "PathDecoder$Spectrum" "PathDecoder$Spectrum" "waiting" "[I") ∈ pd_B := pd_in1 (tb_2 _ (List.mem_of_getElem? (i := 11) rfl)) rfl
theorem wd_2_13 : (Jvm.Cond.laysFinal "PathDecoder$Spectrum" "PathDecoder$Spectrum" "least" "[I") ∈ pd_B := pd_in1 (tb_2 _ (List.mem_of_getElem? (i := 13) rfl)) rfl
theorem wd_2_15 : (Jvm.Cond.laysFinal "PathDecoder$Spectrum" "PathDecoder$Spectrum" "counts" "[J") ∈ pd_B := pd_in1 (tb_2 _ (List.mem_of_getElem? (i := 15) rfl)) rfl
theorem wd_2_18 : (Jvm.Cond.arrayClass Jvm.ClassFile.FieldType.long) ∈ pd_B := pd_in1 (tb_2 _ (List.mem_of_getElem? (i := 18) rfl)) rfl
theorem wd_2_19 : (Jvm.Cond.instantiable "PathDecoder$Row" (2 : Nat)) ∈ pd_B := pd_in1 (tb_2 _ (List.mem_of_getElem? (i := 19) rfl)) rfl
theorem wd_2_21 : (Jvm.Cond.instanceMethod ({ cls := "PathDecoder$Row", name := "<init>", desc := "()V" } : Jvm.MethodName)) ∈ pd_B := pd_in1 (tb_2 _ (List.mem_of_getElem? (i := 21) rfl)) rfl
theorem wd_2_22 : (Jvm.Cond.code ({ cls := "PathDecoder$Row", name := "<init>", desc := "()V" } : Jvm.MethodName) prog_6_method_1_code (1 : Nat) (Option.none : Option Jvm.ClassFile.FieldType)) ∈ pd_B := pd_in1 (tb_2 _ (List.mem_of_getElem? (i := 22) rfl)) rfl
theorem wd_2_23 : (Jvm.Cond.methodLink "PathDecoder$Row" (3 : Nat) ({ cls := "java/lang/Object", name := "<init>", desc := "()V" } : Jvm.MethodName)) ∈ pd_B := pd_in1 (tb_2 _ (List.mem_of_getElem? (i := 23) rfl)) rfl
theorem wd_2_24 : (Jvm.Cond.fieldLink "PathDecoder$Row" (9 : Nat) "PathDecoder$Row" "numbers" "[S") ∈ pd_B := pd_in1 (tb_2 _ (List.mem_of_getElem? (i := 24) rfl)) rfl
theorem wd_2_25 : (Jvm.Cond.fieldLink "PathDecoder$Row" (15 : Nat) "PathDecoder$Row" "size" "I") ∈ pd_B := pd_in1 (tb_2 _ (List.mem_of_getElem? (i := 25) rfl)) rfl
theorem wd_2_26 : (Jvm.Cond.laysFinal "PathDecoder$Row" "PathDecoder$Row" "numbers" "[S") ∈ pd_B := pd_in1 (tb_2 _ (List.mem_of_getElem? (i := 26) rfl)) rfl
theorem wd_2_28 : (Jvm.Cond.lays "PathDecoder$Row" "PathDecoder$Row" "size" "I") ∈ pd_B := pd_in1 (tb_2 _ (List.mem_of_getElem? (i := 28) rfl)) rfl
theorem wd_2_31 : (Jvm.Cond.arrayClass Jvm.ClassFile.FieldType.short) ∈ pd_B := pd_in1 (tb_2 _ (List.mem_of_getElem? (i := 31) rfl)) rfl
theorem wd_2_32 : (Jvm.Cond.fieldLink "PathDecoder" (11 : Nat) "PathDecoder" "rows" "[LPathDecoder$Row;") ∈ pd_B := pd_in1 (tb_2 _ (List.mem_of_getElem? (i := 32) rfl)) rfl
theorem wd_2_33 : (Jvm.Cond.fieldLink "PathDecoder" (17 : Nat) "PathDecoder" "codes" "[LPathDecoder$Code;") ∈ pd_B := pd_in1 (tb_2 _ (List.mem_of_getElem? (i := 33) rfl)) rfl
theorem wd_2_34 : (Jvm.Cond.fieldLink "PathDecoder" (21 : Nat) "PathDecoder" "codeCount" "I") ∈ pd_B := pd_in1 (tb_2 _ (List.mem_of_getElem? (i := 34) rfl)) rfl
theorem wd_2_35 : (Jvm.Cond.fieldLink "PathDecoder" (28 : Nat) "PathDecoder" "message" "LPathDecoder$Message;") ∈ pd_B := pd_in1 (tb_2 _ (List.mem_of_getElem? (i := 35) rfl)) rfl
theorem wd_2_36 : (Jvm.Cond.fieldLink "PathDecoder" (35 : Nat) "PathDecoder" "received" "LPathDecoder$Received;") ∈ pd_B := pd_in1 (tb_2 _ (List.mem_of_getElem? (i := 36) rfl)) rfl
theorem wd_2_37 : (Jvm.Cond.fieldLink "PathDecoder" (42 : Nat) "PathDecoder" "lattice" "LPathDecoder$Lattice;") ∈ pd_B := pd_in1 (tb_2 _ (List.mem_of_getElem? (i := 37) rfl)) rfl
theorem wd_2_38 : (Jvm.Cond.fieldLink "PathDecoder" (49 : Nat) "PathDecoder" "ways" "LPathDecoder$Ways;") ∈ pd_B := pd_in1 (tb_2 _ (List.mem_of_getElem? (i := 38) rfl)) rfl
theorem wd_2_39 : (Jvm.Cond.fieldLink "PathDecoder" (58 : Nat) "PathDecoder" "search" "LPathDecoder$Search;") ∈ pd_B := pd_in1 (tb_2 _ (List.mem_of_getElem? (i := 39) rfl)) rfl
theorem wd_2_40 : (Jvm.Cond.fieldLink "PathDecoder" (67 : Nat) "PathDecoder" "seeming" "LPathDecoder$Seeming;") ∈ pd_B := pd_in1 (tb_2 _ (List.mem_of_getElem? (i := 40) rfl)) rfl
theorem wd_2_41 : (Jvm.Cond.fieldLink "PathDecoder" (76 : Nat) "PathDecoder" "turns" "LPathDecoder$Turns;") ∈ pd_B := pd_in1 (tb_2 _ (List.mem_of_getElem? (i := 41) rfl)) rfl
theorem wd_2_42 : (Jvm.Cond.fieldLink "PathDecoder" (83 : Nat) "PathDecoder" "spectrum" "LPathDecoder$Spectrum;") ∈ pd_B := pd_in1 (tb_2 _ (List.mem_of_getElem? (i := 42) rfl)) rfl
theorem wd_2_43 : (Jvm.Cond.fieldLink "PathDecoder" (87 : Nat) "PathDecoder" "seen" "[I") ∈ pd_B := pd_in1 (tb_2 _ (List.mem_of_getElem? (i := 43) rfl)) rfl
theorem wd_2_44 : (Jvm.Cond.fieldLink "PathDecoder" (91 : Nat) "PathDecoder" "seenCount" "I") ∈ pd_B := pd_in1 (tb_2 _ (List.mem_of_getElem? (i := 44) rfl)) rfl
theorem wd_2_45 : (Jvm.Cond.fieldLink "PathDecoder" (94 : Nat) "PathDecoder" "lastAgreed" "Z") ∈ pd_B := pd_in1 (tb_2 _ (List.mem_of_getElem? (i := 45) rfl)) rfl
theorem wd_2_46 : (Jvm.Cond.laysFinal "PathDecoder" "PathDecoder" "rows" "[LPathDecoder$Row;") ∈ pd_B := pd_in1 (tb_2 _ (List.mem_of_getElem? (i := 46) rfl)) rfl
theorem wd_2_48 : (Jvm.Cond.laysFinal "PathDecoder" "PathDecoder" "codes" "[LPathDecoder$Code;") ∈ pd_B := pd_in1 (tb_2 _ (List.mem_of_getElem? (i := 48) rfl)) rfl
theorem wd_2_50 : (Jvm.Cond.lays "PathDecoder" "PathDecoder" "codeCount" "I") ∈ pd_B := pd_in1 (tb_2 _ (List.mem_of_getElem? (i := 50) rfl)) rfl
theorem wd_2_52 : (Jvm.Cond.laysFinal "PathDecoder" "PathDecoder" "message" "LPathDecoder$Message;") ∈ pd_B := pd_in1 (tb_2 _ (List.mem_of_getElem? (i := 52) rfl)) rfl
theorem wd_2_54 : (Jvm.Cond.laysFinal "PathDecoder" "PathDecoder" "received" "LPathDecoder$Received;") ∈ pd_B := pd_in1 (tb_2 _ (List.mem_of_getElem? (i := 54) rfl)) rfl
theorem wd_2_56 : (Jvm.Cond.laysFinal "PathDecoder" "PathDecoder" "lattice" "LPathDecoder$Lattice;") ∈ pd_B := pd_in1 (tb_2 _ (List.mem_of_getElem? (i := 56) rfl)) rfl
theorem wd_2_58 : (Jvm.Cond.laysFinal "PathDecoder" "PathDecoder" "ways" "LPathDecoder$Ways;") ∈ pd_B := pd_in1 (tb_2 _ (List.mem_of_getElem? (i := 58) rfl)) rfl
theorem wd_2_60 : (Jvm.Cond.laysFinal "PathDecoder" "PathDecoder" "search" "LPathDecoder$Search;") ∈ pd_B := pd_in1 (tb_2 _ (List.mem_of_getElem? (i := 60) rfl)) rfl
theorem wd_2_62 : (Jvm.Cond.laysFinal "PathDecoder" "PathDecoder" "seeming" "LPathDecoder$Seeming;") ∈ pd_B := pd_in1 (tb_2 _ (List.mem_of_getElem? (i := 62) rfl)) rfl
theorem wd_2_64 : (Jvm.Cond.laysFinal "PathDecoder" "PathDecoder" "turns" "LPathDecoder$Turns;") ∈ pd_B := pd_in1 (tb_2 _ (List.mem_of_getElem? (i := 64) rfl)) rfl
theorem wd_2_66 : (Jvm.Cond.laysFinal "PathDecoder" "PathDecoder" "spectrum" "LPathDecoder$Spectrum;") ∈ pd_B := pd_in1 (tb_2 _ (List.mem_of_getElem? (i := 66) rfl)) rfl
theorem wd_2_68 : (Jvm.Cond.laysFinal "PathDecoder" "PathDecoder" "seen" "[I") ∈ pd_B := pd_in1 (tb_2 _ (List.mem_of_getElem? (i := 68) rfl)) rfl
theorem wd_2_70 : (Jvm.Cond.lays "PathDecoder" "PathDecoder" "seenCount" "I") ∈ pd_B := pd_in1 (tb_2 _ (List.mem_of_getElem? (i := 70) rfl)) rfl
theorem wd_2_72 : (Jvm.Cond.lays "PathDecoder" "PathDecoder" "lastAgreed" "Z") ∈ pd_B := pd_in1 (tb_2 _ (List.mem_of_getElem? (i := 72) rfl)) rfl
theorem wd_2_75 : (Jvm.Cond.methodLink "PathDecoderLaw" (164 : Nat) ({ cls := "PathDecoder", name := "agreed", desc := "()Z" } : Jvm.MethodName)) ∈ pd_B := pd_in1 (tb_2 _ (List.mem_of_getElem? (i := 75) rfl)) rfl
theorem wd_2_76 : (Jvm.Cond.instanceMethod ({ cls := "PathDecoder", name := "agreed", desc := "()Z" } : Jvm.MethodName)) ∈ pd_B := pd_in1 (tb_2 _ (List.mem_of_getElem? (i := 76) rfl)) rfl
theorem wd_2_77 : (Jvm.Cond.selects "PathDecoder" ({ cls := "PathDecoder", name := "agreed", desc := "()Z" } : Jvm.MethodName) ({ cls := "PathDecoder", name := "agreed", desc := "()Z" } : Jvm.MethodName)) ∈ pd_B := pd_in1 (tb_2 _ (List.mem_of_getElem? (i := 77) rfl)) rfl
theorem wd_2_78 : (Jvm.Cond.code ({ cls := "PathDecoder", name := "agreed", desc := "()Z" } : Jvm.MethodName) prog_1_method_20_code (1 : Nat) (Option.some Jvm.ClassFile.FieldType.boolean)) ∈ pd_B := pd_in1 (tb_2 _ (List.mem_of_getElem? (i := 78) rfl)) rfl
theorem wd_2_79 : (Jvm.Cond.methodLink "PathDecoderLaw" (101 : Nat) ({ cls := "PathDecoderLaw", name := "row", desc := "(LPathDecoder;II[J)I" } : Jvm.MethodName)) ∈ pd_B := pd_in1 (tb_2 _ (List.mem_of_getElem? (i := 79) rfl)) rfl
theorem wd_2_80 : (Jvm.Cond.static ({ cls := "PathDecoderLaw", name := "row", desc := "(LPathDecoder;II[J)I" } : Jvm.MethodName)) ∈ pd_B := pd_in1 (tb_2 _ (List.mem_of_getElem? (i := 80) rfl)) rfl
theorem wd_2_81 : (Jvm.Cond.codeWith ({ cls := "PathDecoderLaw", name := "row", desc := "(LPathDecoder;II[J)I" } : Jvm.MethodName) method_3_code (5 : Nat) (Option.some Jvm.ClassFile.FieldType.int) [((0 : Nat), (17 : Nat), (20 : Nat), (13 : Nat)), ((0 : Nat), (17 : Nat), (24 : Nat), (15 : Nat))]) ∈ pd_B := pd_in1 (tb_2 _ (List.mem_of_getElem? (i := 81) rfl)) rfl
theorem wd_2_82 : (Jvm.Cond.classLink "PathDecoderLaw" (13 : Nat) "java/lang/IndexOutOfBoundsException") ∈ pd_B := pd_in1 (tb_2 _ (List.mem_of_getElem? (i := 82) rfl)) rfl
theorem wd_2_83 : (Jvm.Cond.classLink "PathDecoderLaw" (15 : Nat) "java/lang/IllegalArgumentException") ∈ pd_B := pd_in1 (tb_2 _ (List.mem_of_getElem? (i := 83) rfl)) rfl
theorem wd_2_84 : (Jvm.Cond.methodLink "PathDecoderLaw" (7 : Nat) ({ cls := "PathDecoder", name := "row", desc := "(II)Z" } : Jvm.MethodName)) ∈ pd_B := pd_in1 (tb_2 _ (List.mem_of_getElem? (i := 84) rfl)) rfl
theorem wd_2_85 : (Jvm.Cond.instanceMethod ({ cls := "PathDecoder", name := "row", desc := "(II)Z" } : Jvm.MethodName)) ∈ pd_B := pd_in1 (tb_2 _ (List.mem_of_getElem? (i := 85) rfl)) rfl
theorem wd_2_86 : (Jvm.Cond.selects "PathDecoder" ({ cls := "PathDecoder", name := "row", desc := "(II)Z" } : Jvm.MethodName) ({ cls := "PathDecoder", name := "row", desc := "(II)Z" } : Jvm.MethodName)) ∈ pd_B := pd_in1 (tb_2 _ (List.mem_of_getElem? (i := 86) rfl)) rfl
theorem wd_2_87 : (Jvm.Cond.code ({ cls := "PathDecoder", name := "row", desc := "(II)Z" } : Jvm.MethodName) prog_1_method_2_code (5 : Nat) (Option.some Jvm.ClassFile.FieldType.boolean)) ∈ pd_B := pd_in1 (tb_2 _ (List.mem_of_getElem? (i := 87) rfl)) rfl
theorem wd_2_88 : (Jvm.Cond.methodLink "PathDecoder" (99 : Nat) ({ cls := "PathDecoder", name := "rowOf", desc := "(I)LPathDecoder$Row;" } : Jvm.MethodName)) ∈ pd_B := pd_in1 (tb_2 _ (List.mem_of_getElem? (i := 88) rfl)) rfl
theorem wd_2_90 : (Jvm.Cond.instanceMethod ({ cls := "PathDecoder", name := "rowOf", desc := "(I)LPathDecoder$Row;" } : Jvm.MethodName)) ∈ pd_B := pd_in1 (tb_2 _ (List.mem_of_getElem? (i := 90) rfl)) rfl
theorem wd_2_91 : (Jvm.Cond.code ({ cls := "PathDecoder", name := "rowOf", desc := "(I)LPathDecoder$Row;" } : Jvm.MethodName) prog_1_method_28_code (3 : Nat) (Option.some (Jvm.ClassFile.FieldType.object "PathDecoder$Row"))) ∈ pd_B := pd_in1 (tb_2 _ (List.mem_of_getElem? (i := 91) rfl)) rfl
theorem wd_2_92 : (Jvm.Cond.classLink "PathDecoder" (347 : Nat) "java/lang/IndexOutOfBoundsException") ∈ pd_B := pd_in1 (tb_2 _ (List.mem_of_getElem? (i := 92) rfl)) rfl
theorem wd_2_93 : (Jvm.Cond.instantiable "java/lang/IndexOutOfBoundsException" (6 : Nat)) ∈ pd_B := pd_in1 (tb_2 _ (List.mem_of_getElem? (i := 93) rfl)) rfl
theorem wd_2_101 : (Jvm.Cond.selects "java/lang/IndexOutOfBoundsException" ({ cls := "java/lang/Throwable", name := "fillInStackTrace", desc := "(I)Ljava/lang/Throwable;" } : Jvm.MethodName) ({ cls := "java/lang/Throwable", name := "fillInStackTrace", desc := "(I)Ljava/lang/Throwable;" } : Jvm.MethodName)) ∈ pd_B := pd_in1 (tb_2 _ (List.mem_of_getElem? (i := 101) rfl)) rfl
theorem wd_2_102 : (Jvm.Cond.selects "java/lang/IndexOutOfBoundsException" ({ cls := "java/lang/Throwable", name := "fillInStackTrace", desc := "()Ljava/lang/Throwable;" } : Jvm.MethodName) ({ cls := "java/lang/Throwable", name := "fillInStackTrace", desc := "()Ljava/lang/Throwable;" } : Jvm.MethodName)) ∈ pd_B := pd_in1 (tb_2 _ (List.mem_of_getElem? (i := 102) rfl)) rfl
theorem wd_2_103 : (Jvm.Cond.lays "java/lang/IndexOutOfBoundsException" "java/lang/Throwable" "cause" "Ljava/lang/Throwable;") ∈ pd_B := pd_in1 (tb_2 _ (List.mem_of_getElem? (i := 103) rfl)) rfl
theorem wd_2_104 : (Jvm.Cond.lays "java/lang/Throwable" "java/lang/Throwable" "cause" "Ljava/lang/Throwable;") ∈ pd_B := pd_in1 (tb_2 _ (List.mem_of_getElem? (i := 104) rfl)) rfl
theorem wd_2_105 : (Jvm.Cond.lays "java/lang/IndexOutOfBoundsException" "java/lang/Throwable" "stackTrace" "[Ljava/lang/StackTraceElement;") ∈ pd_B := pd_in1 (tb_2 _ (List.mem_of_getElem? (i := 105) rfl)) rfl
theorem wd_2_106 : (Jvm.Cond.lays "java/lang/Throwable" "java/lang/Throwable" "stackTrace" "[Ljava/lang/StackTraceElement;") ∈ pd_B := pd_in1 (tb_2 _ (List.mem_of_getElem? (i := 106) rfl)) rfl
theorem wd_2_107 : (Jvm.Cond.lays "java/lang/IndexOutOfBoundsException" "java/lang/Throwable" "suppressedExceptions" "Ljava/util/List;") ∈ pd_B := pd_in1 (tb_2 _ (List.mem_of_getElem? (i := 107) rfl)) rfl
theorem wd_2_108 : (Jvm.Cond.lays "java/lang/Throwable" "java/lang/Throwable" "suppressedExceptions" "Ljava/util/List;") ∈ pd_B := pd_in1 (tb_2 _ (List.mem_of_getElem? (i := 108) rfl)) rfl
theorem wd_2_109 : (Jvm.Cond.lays "java/lang/IndexOutOfBoundsException" "java/lang/Throwable" "detailMessage" "Ljava/lang/String;") ∈ pd_B := pd_in1 (tb_2 _ (List.mem_of_getElem? (i := 109) rfl)) rfl
theorem wd_2_110 : (Jvm.Cond.lays "java/lang/Throwable" "java/lang/Throwable" "detailMessage" "Ljava/lang/String;") ∈ pd_B := pd_in1 (tb_2 _ (List.mem_of_getElem? (i := 110) rfl)) rfl
theorem wd_2_111 : (Jvm.Cond.lays "java/lang/IndexOutOfBoundsException" "java/lang/Throwable" "backtrace" "Ljava/lang/Object;") ∈ pd_B := pd_in1 (tb_2 _ (List.mem_of_getElem? (i := 111) rfl)) rfl
theorem wd_2_112 : (Jvm.Cond.lays "java/lang/Throwable" "java/lang/Throwable" "backtrace" "Ljava/lang/Object;") ∈ pd_B := pd_in1 (tb_2 _ (List.mem_of_getElem? (i := 112) rfl)) rfl
theorem wd_2_113 : (Jvm.Cond.fieldLink "java/lang/Throwable" (198 : Nat) "java/lang/Throwable" "backtrace" "Ljava/lang/Object;") ∈ pd_B := pd_in1 (tb_2 _ (List.mem_of_getElem? (i := 113) rfl)) rfl
theorem wd_2_115 : (Jvm.Cond.instanceMethod ({ cls := "java/lang/Throwable", name := "<init>", desc := "()V" } : Jvm.MethodName)) ∈ pd_B := pd_in1 (tb_2 _ (List.mem_of_getElem? (i := 115) rfl)) rfl
theorem wd_2_116 : (Jvm.Cond.code ({ cls := "java/lang/Throwable", name := "<init>", desc := "()V" } : Jvm.MethodName) prog_23_method_1_code (1 : Nat) (Option.none : Option Jvm.ClassFile.FieldType)) ∈ pd_B := pd_in1 (tb_2 _ (List.mem_of_getElem? (i := 116) rfl)) rfl
theorem wd_2_117 : (Jvm.Cond.methodLink "java/lang/Throwable" (1 : Nat) ({ cls := "java/lang/Object", name := "<init>", desc := "()V" } : Jvm.MethodName)) ∈ pd_B := pd_in1 (tb_2 _ (List.mem_of_getElem? (i := 117) rfl)) rfl
theorem wd_2_118 : (Jvm.Cond.fieldLink "java/lang/Throwable" (13 : Nat) "java/lang/Throwable" "UNASSIGNED_STACK" "[Ljava/lang/StackTraceElement;") ∈ pd_B := pd_in1 (tb_2 _ (List.mem_of_getElem? (i := 118) rfl)) rfl
theorem wd_2_120 : (Jvm.Cond.fieldLink "java/lang/Throwable" (20 : Nat) "java/lang/Throwable" "SUPPRESSED_SENTINEL" "Ljava/util/List;") ∈ pd_B := pd_in1 (tb_2 _ (List.mem_of_getElem? (i := 120) rfl)) rfl
theorem wd_2_122 : (Jvm.Cond.methodLink "java/lang/Throwable" (27 : Nat) ({ cls := "java/lang/Throwable", name := "fillInStackTrace", desc := "()Ljava/lang/Throwable;" } : Jvm.MethodName)) ∈ pd_B := pd_in1 (tb_2 _ (List.mem_of_getElem? (i := 122) rfl)) rfl
theorem wd_2_123 : (Jvm.Cond.instanceMethod ({ cls := "java/lang/Throwable", name := "fillInStackTrace", desc := "()Ljava/lang/Throwable;" } : Jvm.MethodName)) ∈ pd_B := pd_in1 (tb_2 _ (List.mem_of_getElem? (i := 123) rfl)) rfl
theorem wd_2_125 : (Jvm.Cond.selects "java/lang/IllegalArgumentException" ({ cls := "java/lang/Throwable", name := "fillInStackTrace", desc := "()Ljava/lang/Throwable;" } : Jvm.MethodName) ({ cls := "java/lang/Throwable", name := "fillInStackTrace", desc := "()Ljava/lang/Throwable;" } : Jvm.MethodName)) ∈ pd_B := pd_in1 (tb_2 _ (List.mem_of_getElem? (i := 125) rfl)) rfl
theorem wd_2_126 : (Jvm.Cond.selects "java/util/NoSuchElementException" ({ cls := "java/lang/Throwable", name := "fillInStackTrace", desc := "()Ljava/lang/Throwable;" } : Jvm.MethodName) ({ cls := "java/lang/Throwable", name := "fillInStackTrace", desc := "()Ljava/lang/Throwable;" } : Jvm.MethodName)) ∈ pd_B := pd_in1 (tb_2 _ (List.mem_of_getElem? (i := 126) rfl)) rfl
theorem wd_2_128 : (Jvm.Cond.methodLink "java/lang/Throwable" (202 : Nat) ({ cls := "java/lang/Throwable", name := "fillInStackTrace", desc := "(I)Ljava/lang/Throwable;" } : Jvm.MethodName)) ∈ pd_B := pd_in1 (tb_2 _ (List.mem_of_getElem? (i := 128) rfl)) rfl
theorem wd_2_130 : (Jvm.Cond.instanceMethod ({ cls := "java/lang/Throwable", name := "fillInStackTrace", desc := "(I)Ljava/lang/Throwable;" } : Jvm.MethodName)) ∈ pd_B := pd_in1 (tb_2 _ (List.mem_of_getElem? (i := 130) rfl)) rfl
theorem wd_2_131 : (Jvm.Cond.instantiable "java/lang/Throwable" (6 : Nat)) ∈ pd_B := pd_in1 (tb_2 _ (List.mem_of_getElem? (i := 131) rfl)) rfl
theorem wd_2_134 : (Jvm.Cond.methodLink "PathDecoder" (351 : Nat) ({ cls := "java/lang/IndexOutOfBoundsException", name := "<init>", desc := "(Ljava/lang/String;)V" } : Jvm.MethodName)) ∈ pd_B := pd_in1 (tb_2 _ (List.mem_of_getElem? (i := 134) rfl)) rfl
theorem wd_2_135 : (Jvm.Cond.instanceMethod ({ cls := "java/lang/IndexOutOfBoundsException", name := "<init>", desc := "(Ljava/lang/String;)V" } : Jvm.MethodName)) ∈ pd_B := pd_in1 (tb_2 _ (List.mem_of_getElem? (i := 135) rfl)) rfl
theorem wd_2_136 : (Jvm.Cond.code ({ cls := "java/lang/IndexOutOfBoundsException", name := "<init>", desc := "(Ljava/lang/String;)V" } : Jvm.MethodName) prog_18_method_2_code (2 : Nat) (Option.none : Option Jvm.ClassFile.FieldType)) ∈ pd_B := pd_in1 (tb_2 _ (List.mem_of_getElem? (i := 136) rfl)) rfl
theorem wd_2_137 : (Jvm.Cond.methodLink "java/lang/IndexOutOfBoundsException" (7 : Nat) ({ cls := "java/lang/RuntimeException", name := "<init>", desc := "(Ljava/lang/String;)V" } : Jvm.MethodName)) ∈ pd_B := pd_in1 (tb_2 _ (List.mem_of_getElem? (i := 137) rfl)) rfl
theorem wd_2_138 : (Jvm.Cond.instanceMethod ({ cls := "java/lang/RuntimeException", name := "<init>", desc := "(Ljava/lang/String;)V" } : Jvm.MethodName)) ∈ pd_B := pd_in1 (tb_2 _ (List.mem_of_getElem? (i := 138) rfl)) rfl
theorem wd_2_139 : (Jvm.Cond.code ({ cls := "java/lang/RuntimeException", name := "<init>", desc := "(Ljava/lang/String;)V" } : Jvm.MethodName) prog_21_method_2_code (2 : Nat) (Option.none : Option Jvm.ClassFile.FieldType)) ∈ pd_B := pd_in1 (tb_2 _ (List.mem_of_getElem? (i := 139) rfl)) rfl
theorem wd_2_140 : (Jvm.Cond.methodLink "java/lang/RuntimeException" (7 : Nat) ({ cls := "java/lang/Exception", name := "<init>", desc := "(Ljava/lang/String;)V" } : Jvm.MethodName)) ∈ pd_B := pd_in1 (tb_2 _ (List.mem_of_getElem? (i := 140) rfl)) rfl
theorem wd_2_141 : (Jvm.Cond.instanceMethod ({ cls := "java/lang/Exception", name := "<init>", desc := "(Ljava/lang/String;)V" } : Jvm.MethodName)) ∈ pd_B := pd_in1 (tb_2 _ (List.mem_of_getElem? (i := 141) rfl)) rfl
theorem wd_2_142 : (Jvm.Cond.code ({ cls := "java/lang/Exception", name := "<init>", desc := "(Ljava/lang/String;)V" } : Jvm.MethodName) prog_16_method_2_code (2 : Nat) (Option.none : Option Jvm.ClassFile.FieldType)) ∈ pd_B := pd_in1 (tb_2 _ (List.mem_of_getElem? (i := 142) rfl)) rfl
theorem wd_2_143 : (Jvm.Cond.methodLink "java/lang/Exception" (7 : Nat) ({ cls := "java/lang/Throwable", name := "<init>", desc := "(Ljava/lang/String;)V" } : Jvm.MethodName)) ∈ pd_B := pd_in1 (tb_2 _ (List.mem_of_getElem? (i := 143) rfl)) rfl
theorem wd_2_144 : (Jvm.Cond.instanceMethod ({ cls := "java/lang/Throwable", name := "<init>", desc := "(Ljava/lang/String;)V" } : Jvm.MethodName)) ∈ pd_B := pd_in1 (tb_2 _ (List.mem_of_getElem? (i := 144) rfl)) rfl
theorem wd_2_145 : (Jvm.Cond.code ({ cls := "java/lang/Throwable", name := "<init>", desc := "(Ljava/lang/String;)V" } : Jvm.MethodName) prog_23_method_2_code (2 : Nat) (Option.none : Option Jvm.ClassFile.FieldType)) ∈ pd_B := pd_in1 (tb_2 _ (List.mem_of_getElem? (i := 145) rfl)) rfl
theorem wd_2_146 : (Jvm.Cond.fieldLink "java/lang/Throwable" (198 : Nat) "java/lang/Throwable" "backtrace" "Ljava/lang/Object;") ∈ pd_B := pd_in1 (tb_2 _ (List.mem_of_getElem? (i := 146) rfl)) rfl
theorem wd_2_147 : (Jvm.Cond.fieldLink "java/lang/Throwable" (31 : Nat) "java/lang/Throwable" "detailMessage" "Ljava/lang/String;") ∈ pd_B := pd_in1 (tb_2 _ (List.mem_of_getElem? (i := 147) rfl)) rfl
theorem wd_2_148 : (Jvm.Cond.fieldLink "java/lang/Throwable" (7 : Nat) "java/lang/Throwable" "cause" "Ljava/lang/Throwable;") ∈ pd_B := pd_in1 (tb_2 _ (List.mem_of_getElem? (i := 148) rfl)) rfl
theorem wd_2_149 : (Jvm.Cond.fieldLink "java/lang/Throwable" (17 : Nat) "java/lang/Throwable" "stackTrace" "[Ljava/lang/StackTraceElement;") ∈ pd_B := pd_in1 (tb_2 _ (List.mem_of_getElem? (i := 149) rfl)) rfl
theorem wd_2_150 : (Jvm.Cond.fieldLink "java/lang/Throwable" (24 : Nat) "java/lang/Throwable" "suppressedExceptions" "Ljava/util/List;") ∈ pd_B := pd_in1 (tb_2 _ (List.mem_of_getElem? (i := 150) rfl)) rfl
theorem wd_2_155 : (Jvm.Cond.lays "java/lang/IndexOutOfBoundsException" "java/lang/Throwable" "depth" "I") ∈ pd_B := pd_in1 (tb_2 _ (List.mem_of_getElem? (i := 155) rfl)) rfl
theorem wd_2_159 : (Jvm.Cond.classLink "PathDecoder" (103 : Nat) "java/lang/IllegalArgumentException") ∈ pd_B := pd_in1 (tb_2 _ (List.mem_of_getElem? (i := 159) rfl)) rfl
theorem wd_2_160 : (Jvm.Cond.instantiable "java/lang/IllegalArgumentException" (6 : Nat)) ∈ pd_B := pd_in1 (tb_2 _ (List.mem_of_getElem? (i := 160) rfl)) rfl
theorem wd_2_162 : (Jvm.Cond.selects "java/lang/IllegalArgumentException" ({ cls := "java/lang/Throwable", name := "fillInStackTrace", desc := "(I)Ljava/lang/Throwable;" } : Jvm.MethodName) ({ cls := "java/lang/Throwable", name := "fillInStackTrace", desc := "(I)Ljava/lang/Throwable;" } : Jvm.MethodName)) ∈ pd_B := pd_in1 (tb_2 _ (List.mem_of_getElem? (i := 162) rfl)) rfl
theorem wd_2_163 : (Jvm.Cond.lays "java/lang/IllegalArgumentException" "java/lang/Throwable" "cause" "Ljava/lang/Throwable;") ∈ pd_B := pd_in1 (tb_2 _ (List.mem_of_getElem? (i := 163) rfl)) rfl
theorem wd_2_164 : (Jvm.Cond.lays "java/lang/IllegalArgumentException" "java/lang/Throwable" "stackTrace" "[Ljava/lang/StackTraceElement;") ∈ pd_B := pd_in1 (tb_2 _ (List.mem_of_getElem? (i := 164) rfl)) rfl
theorem wd_2_165 : (Jvm.Cond.lays "java/lang/IllegalArgumentException" "java/lang/Throwable" "suppressedExceptions" "Ljava/util/List;") ∈ pd_B := pd_in1 (tb_2 _ (List.mem_of_getElem? (i := 165) rfl)) rfl
theorem wd_2_166 : (Jvm.Cond.lays "java/lang/IllegalArgumentException" "java/lang/Throwable" "detailMessage" "Ljava/lang/String;") ∈ pd_B := pd_in1 (tb_2 _ (List.mem_of_getElem? (i := 166) rfl)) rfl
theorem wd_2_167 : (Jvm.Cond.lays "java/lang/IllegalArgumentException" "java/lang/Throwable" "backtrace" "Ljava/lang/Object;") ∈ pd_B := pd_in1 (tb_2 _ (List.mem_of_getElem? (i := 167) rfl)) rfl
theorem wd_2_169 : (Jvm.Cond.methodLink "PathDecoder" (107 : Nat) ({ cls := "java/lang/IllegalArgumentException", name := "<init>", desc := "(Ljava/lang/String;)V" } : Jvm.MethodName)) ∈ pd_B := pd_in1 (tb_2 _ (List.mem_of_getElem? (i := 169) rfl)) rfl
theorem wd_2_170 : (Jvm.Cond.instanceMethod ({ cls := "java/lang/IllegalArgumentException", name := "<init>", desc := "(Ljava/lang/String;)V" } : Jvm.MethodName)) ∈ pd_B := pd_in1 (tb_2 _ (List.mem_of_getElem? (i := 170) rfl)) rfl
theorem wd_2_171 : (Jvm.Cond.code ({ cls := "java/lang/IllegalArgumentException", name := "<init>", desc := "(Ljava/lang/String;)V" } : Jvm.MethodName) prog_17_method_2_code (2 : Nat) (Option.none : Option Jvm.ClassFile.FieldType)) ∈ pd_B := pd_in1 (tb_2 _ (List.mem_of_getElem? (i := 171) rfl)) rfl
theorem wd_2_172 : (Jvm.Cond.methodLink "java/lang/IllegalArgumentException" (7 : Nat) ({ cls := "java/lang/RuntimeException", name := "<init>", desc := "(Ljava/lang/String;)V" } : Jvm.MethodName)) ∈ pd_B := pd_in1 (tb_2 _ (List.mem_of_getElem? (i := 172) rfl)) rfl
theorem wd_2_173 : (Jvm.Cond.lays "java/lang/IllegalArgumentException" "java/lang/Throwable" "depth" "I") ∈ pd_B := pd_in1 (tb_2 _ (List.mem_of_getElem? (i := 173) rfl)) rfl
theorem wd_2_175 : (Jvm.Cond.methodLink "PathDecoder" (110 : Nat) ({ cls := "PathDecoder$Row", name := "isMissing", desc := "()Z" } : Jvm.MethodName)) ∈ pd_B := pd_in1 (tb_2 _ (List.mem_of_getElem? (i := 175) rfl)) rfl
theorem wd_2_176 : (Jvm.Cond.instanceMethod ({ cls := "PathDecoder$Row", name := "isMissing", desc := "()Z" } : Jvm.MethodName)) ∈ pd_B := pd_in1 (tb_2 _ (List.mem_of_getElem? (i := 176) rfl)) rfl
theorem wd_2_177 : (Jvm.Cond.selects "PathDecoder$Row" ({ cls := "PathDecoder$Row", name := "isMissing", desc := "()Z" } : Jvm.MethodName) ({ cls := "PathDecoder$Row", name := "isMissing", desc := "()Z" } : Jvm.MethodName)) ∈ pd_B := pd_in1 (tb_2 _ (List.mem_of_getElem? (i := 177) rfl)) rfl
theorem wd_2_178 : (Jvm.Cond.code ({ cls := "PathDecoder$Row", name := "isMissing", desc := "()Z" } : Jvm.MethodName) prog_6_method_2_code (1 : Nat) (Option.some Jvm.ClassFile.FieldType.boolean)) ∈ pd_B := pd_in1 (tb_2 _ (List.mem_of_getElem? (i := 178) rfl)) rfl
theorem wd_2_179 : (Jvm.Cond.methodLink "PathDecoder" (114 : Nat) ({ cls := "PathDecoder$Row", name := "begin", desc := "(I)V" } : Jvm.MethodName)) ∈ pd_B := pd_in1 (tb_2 _ (List.mem_of_getElem? (i := 179) rfl)) rfl
theorem wd_2_180 : (Jvm.Cond.instanceMethod ({ cls := "PathDecoder$Row", name := "begin", desc := "(I)V" } : Jvm.MethodName)) ∈ pd_B := pd_in1 (tb_2 _ (List.mem_of_getElem? (i := 180) rfl)) rfl
theorem wd_2_181 : (Jvm.Cond.selects "PathDecoder$Row" ({ cls := "PathDecoder$Row", name := "begin", desc := "(I)V" } : Jvm.MethodName) ({ cls := "PathDecoder$Row", name := "begin", desc := "(I)V" } : Jvm.MethodName)) ∈ pd_B := pd_in1 (tb_2 _ (List.mem_of_getElem? (i := 181) rfl)) rfl
theorem wd_2_182 : (Jvm.Cond.code ({ cls := "PathDecoder$Row", name := "begin", desc := "(I)V" } : Jvm.MethodName) prog_6_method_5_code (3 : Nat) (Option.none : Option Jvm.ClassFile.FieldType)) ∈ pd_B := pd_in1 (tb_2 _ (List.mem_of_getElem? (i := 182) rfl)) rfl
theorem wd_2_184 : (Jvm.Cond.static ({ cls := "PathDecoder", name := "bounded", desc := "(III)I" } : Jvm.MethodName)) ∈ pd_B := pd_in1 (tb_2 _ (List.mem_of_getElem? (i := 184) rfl)) rfl
theorem wd_2_185 : (Jvm.Cond.code ({ cls := "PathDecoder", name := "bounded", desc := "(III)I" } : Jvm.MethodName) prog_1_method_38_code (3 : Nat) (Option.some Jvm.ClassFile.FieldType.int)) ∈ pd_B := pd_in1 (tb_2 _ (List.mem_of_getElem? (i := 185) rfl)) rfl
theorem wd_2_186 : (Jvm.Cond.methodLink "PathDecoder" (387 : Nat) ({ cls := "java/lang/Math", name := "min", desc := "(II)I" } : Jvm.MethodName)) ∈ pd_B := pd_in1 (tb_2 _ (List.mem_of_getElem? (i := 186) rfl)) rfl
theorem wd_2_187 : (Jvm.Cond.static ({ cls := "java/lang/Math", name := "min", desc := "(II)I" } : Jvm.MethodName)) ∈ pd_B := pd_in1 (tb_2 _ (List.mem_of_getElem? (i := 187) rfl)) rfl
theorem wd_2_188 : (Jvm.Cond.code ({ cls := "java/lang/Math", name := "min", desc := "(II)I" } : Jvm.MethodName) prog_20_method_69_code (2 : Nat) (Option.some Jvm.ClassFile.FieldType.int)) ∈ pd_B := pd_in1 (tb_2 _ (List.mem_of_getElem? (i := 188) rfl)) rfl
theorem wd_2_189 : (Jvm.Cond.methodLink "PathDecoder" (393 : Nat) ({ cls := "java/lang/Math", name := "max", desc := "(II)I" } : Jvm.MethodName)) ∈ pd_B := pd_in1 (tb_2 _ (List.mem_of_getElem? (i := 189) rfl)) rfl
theorem wd_2_190 : (Jvm.Cond.static ({ cls := "java/lang/Math", name := "max", desc := "(II)I" } : Jvm.MethodName)) ∈ pd_B := pd_in1 (tb_2 _ (List.mem_of_getElem? (i := 190) rfl)) rfl
theorem wd_2_191 : (Jvm.Cond.code ({ cls := "java/lang/Math", name := "max", desc := "(II)I" } : Jvm.MethodName) prog_20_method_65_code (2 : Nat) (Option.some Jvm.ClassFile.FieldType.int)) ∈ pd_B := pd_in1 (tb_2 _ (List.mem_of_getElem? (i := 191) rfl)) rfl
theorem wd_2_192 : (Jvm.Cond.methodLink "PathDecoderLaw" (111 : Nat) ({ cls := "PathDecoderLaw", name := "put", desc := "(LPathDecoder;III[J)I" } : Jvm.MethodName)) ∈ pd_B := pd_in1 (tb_2 _ (List.mem_of_getElem? (i := 192) rfl)) rfl
theorem wd_2_193 : (Jvm.Cond.static ({ cls := "PathDecoderLaw", name := "put", desc := "(LPathDecoder;III[J)I" } : Jvm.MethodName)) ∈ pd_B := pd_in1 (tb_2 _ (List.mem_of_getElem? (i := 193) rfl)) rfl
theorem wd_2_194 : (Jvm.Cond.codeWith ({ cls := "PathDecoderLaw", name := "put", desc := "(LPathDecoder;III[J)I" } : Jvm.MethodName) method_4_code (6 : Nat) (Option.some Jvm.ClassFile.FieldType.int) [((0 : Nat), (12 : Nat), (15 : Nat), (15 : Nat)), ((0 : Nat), (12 : Nat), (19 : Nat), (13 : Nat)), ((0 : Nat), (12 : Nat), (23 : Nat), (21 : Nat))]) ∈ pd_B := pd_in1 (tb_2 _ (List.mem_of_getElem? (i := 194) rfl)) rfl
theorem wd_2_195 : (Jvm.Cond.classLink "PathDecoderLaw" (21 : Nat) "java/util/NoSuchElementException") ∈ pd_B := pd_in1 (tb_2 _ (List.mem_of_getElem? (i := 195) rfl)) rfl
theorem wd_2_196 : (Jvm.Cond.methodLink "PathDecoderLaw" (17 : Nat) ({ cls := "PathDecoder", name := "put", desc := "(III)I" } : Jvm.MethodName)) ∈ pd_B := pd_in1 (tb_2 _ (List.mem_of_getElem? (i := 196) rfl)) rfl
theorem wd_2_197 : (Jvm.Cond.instanceMethod ({ cls := "PathDecoder", name := "put", desc := "(III)I" } : Jvm.MethodName)) ∈ pd_B := pd_in1 (tb_2 _ (List.mem_of_getElem? (i := 197) rfl)) rfl
theorem wd_2_198 : (Jvm.Cond.selects "PathDecoder" ({ cls := "PathDecoder", name := "put", desc := "(III)I" } : Jvm.MethodName) ({ cls := "PathDecoder", name := "put", desc := "(III)I" } : Jvm.MethodName)) ∈ pd_B := pd_in1 (tb_2 _ (List.mem_of_getElem? (i := 198) rfl)) rfl
theorem wd_2_199 : (Jvm.Cond.code ({ cls := "PathDecoder", name := "put", desc := "(III)I" } : Jvm.MethodName) prog_1_method_3_code (6 : Nat) (Option.some Jvm.ClassFile.FieldType.int)) ∈ pd_B := pd_in1 (tb_2 _ (List.mem_of_getElem? (i := 199) rfl)) rfl
theorem wd_2_201 : (Jvm.Cond.methodLink "PathDecoder" (120 : Nat) ({ cls := "PathDecoder", name := "rowWithNumber", desc := "(II)LPathDecoder$Row;" } : Jvm.MethodName)) ∈ pd_B := pd_in1 (tb_2 _ (List.mem_of_getElem? (i := 201) rfl)) rfl
theorem wd_2_203 : (Jvm.Cond.instanceMethod ({ cls := "PathDecoder", name := "rowWithNumber", desc := "(II)LPathDecoder$Row;" } : Jvm.MethodName)) ∈ pd_B := pd_in1 (tb_2 _ (List.mem_of_getElem? (i := 203) rfl)) rfl
theorem wd_2_204 : (Jvm.Cond.code ({ cls := "PathDecoder", name := "rowWithNumber", desc := "(II)LPathDecoder$Row;" } : Jvm.MethodName) prog_1_method_30_code (4 : Nat) (Option.some (Jvm.ClassFile.FieldType.object "PathDecoder$Row"))) ∈ pd_B := pd_in1 (tb_2 _ (List.mem_of_getElem? (i := 204) rfl)) rfl
theorem wd_2_205 : (Jvm.Cond.methodLink "PathDecoder" (132 : Nat) ({ cls := "PathDecoder", name := "rowThere", desc := "(I)LPathDecoder$Row;" } : Jvm.MethodName)) ∈ pd_B := pd_in1 (tb_2 _ (List.mem_of_getElem? (i := 205) rfl)) rfl
theorem wd_2_207 : (Jvm.Cond.instanceMethod ({ cls := "PathDecoder", name := "rowThere", desc := "(I)LPathDecoder$Row;" } : Jvm.MethodName)) ∈ pd_B := pd_in1 (tb_2 _ (List.mem_of_getElem? (i := 207) rfl)) rfl
theorem wd_2_208 : (Jvm.Cond.code ({ cls := "PathDecoder", name := "rowThere", desc := "(I)LPathDecoder$Row;" } : Jvm.MethodName) prog_1_method_29_code (3 : Nat) (Option.some (Jvm.ClassFile.FieldType.object "PathDecoder$Row"))) ∈ pd_B := pd_in1 (tb_2 _ (List.mem_of_getElem? (i := 208) rfl)) rfl
theorem wd_2_209 : (Jvm.Cond.classLink "PathDecoder" (167 : Nat) "java/util/NoSuchElementException") ∈ pd_B := pd_in1 (tb_2 _ (List.mem_of_getElem? (i := 209) rfl)) rfl
theorem wd_2_210 : (Jvm.Cond.instantiable "java/util/NoSuchElementException" (6 : Nat)) ∈ pd_B := pd_in1 (tb_2 _ (List.mem_of_getElem? (i := 210) rfl)) rfl
theorem wd_2_212 : (Jvm.Cond.selects "java/util/NoSuchElementException" ({ cls := "java/lang/Throwable", name := "fillInStackTrace", desc := "(I)Ljava/lang/Throwable;" } : Jvm.MethodName) ({ cls := "java/lang/Throwable", name := "fillInStackTrace", desc := "(I)Ljava/lang/Throwable;" } : Jvm.MethodName)) ∈ pd_B := pd_in1 (tb_2 _ (List.mem_of_getElem? (i := 212) rfl)) rfl
theorem wd_2_213 : (Jvm.Cond.lays "java/util/NoSuchElementException" "java/lang/Throwable" "cause" "Ljava/lang/Throwable;") ∈ pd_B := pd_in1 (tb_2 _ (List.mem_of_getElem? (i := 213) rfl)) rfl
theorem wd_2_214 : (Jvm.Cond.lays "java/util/NoSuchElementException" "java/lang/Throwable" "stackTrace" "[Ljava/lang/StackTraceElement;") ∈ pd_B := pd_in1 (tb_2 _ (List.mem_of_getElem? (i := 214) rfl)) rfl
theorem wd_2_215 : (Jvm.Cond.lays "java/util/NoSuchElementException" "java/lang/Throwable" "suppressedExceptions" "Ljava/util/List;") ∈ pd_B := pd_in1 (tb_2 _ (List.mem_of_getElem? (i := 215) rfl)) rfl
theorem wd_2_216 : (Jvm.Cond.lays "java/util/NoSuchElementException" "java/lang/Throwable" "detailMessage" "Ljava/lang/String;") ∈ pd_B := pd_in1 (tb_2 _ (List.mem_of_getElem? (i := 216) rfl)) rfl
theorem wd_2_217 : (Jvm.Cond.lays "java/util/NoSuchElementException" "java/lang/Throwable" "backtrace" "Ljava/lang/Object;") ∈ pd_B := pd_in1 (tb_2 _ (List.mem_of_getElem? (i := 217) rfl)) rfl
theorem wd_2_219 : (Jvm.Cond.methodLink "PathDecoder" (171 : Nat) ({ cls := "java/util/NoSuchElementException", name := "<init>", desc := "(Ljava/lang/String;)V" } : Jvm.MethodName)) ∈ pd_B := pd_in1 (tb_2 _ (List.mem_of_getElem? (i := 219) rfl)) rfl
theorem wd_2_220 : (Jvm.Cond.instanceMethod ({ cls := "java/util/NoSuchElementException", name := "<init>", desc := "(Ljava/lang/String;)V" } : Jvm.MethodName)) ∈ pd_B := pd_in1 (tb_2 _ (List.mem_of_getElem? (i := 220) rfl)) rfl
theorem wd_2_221 : (Jvm.Cond.code ({ cls := "java/util/NoSuchElementException", name := "<init>", desc := "(Ljava/lang/String;)V" } : Jvm.MethodName) prog_24_method_4_code (2 : Nat) (Option.none : Option Jvm.ClassFile.FieldType)) ∈ pd_B := pd_in1 (tb_2 _ (List.mem_of_getElem? (i := 221) rfl)) rfl
theorem wd_2_222 : (Jvm.Cond.methodLink "java/util/NoSuchElementException" (13 : Nat) ({ cls := "java/lang/RuntimeException", name := "<init>", desc := "(Ljava/lang/String;)V" } : Jvm.MethodName)) ∈ pd_B := pd_in1 (tb_2 _ (List.mem_of_getElem? (i := 222) rfl)) rfl
theorem wd_2_223 : (Jvm.Cond.lays "java/util/NoSuchElementException" "java/lang/Throwable" "depth" "I") ∈ pd_B := pd_in1 (tb_2 _ (List.mem_of_getElem? (i := 223) rfl)) rfl
theorem wd_2_225 : (Jvm.Cond.methodLink "PathDecoder" (354 : Nat) ({ cls := "PathDecoder$Row", name := "has", desc := "(I)Z" } : Jvm.MethodName)) ∈ pd_B := pd_in1 (tb_2 _ (List.mem_of_getElem? (i := 225) rfl)) rfl
theorem wd_2_226 : (Jvm.Cond.instanceMethod ({ cls := "PathDecoder$Row", name := "has", desc := "(I)Z" } : Jvm.MethodName)) ∈ pd_B := pd_in1 (tb_2 _ (List.mem_of_getElem? (i := 226) rfl)) rfl
theorem wd_2_227 : (Jvm.Cond.selects "PathDecoder$Row" ({ cls := "PathDecoder$Row", name := "has", desc := "(I)Z" } : Jvm.MethodName) ({ cls := "PathDecoder$Row", name := "has", desc := "(I)Z" } : Jvm.MethodName)) ∈ pd_B := pd_in1 (tb_2 _ (List.mem_of_getElem? (i := 227) rfl)) rfl
theorem wd_2_228 : (Jvm.Cond.code ({ cls := "PathDecoder$Row", name := "has", desc := "(I)Z" } : Jvm.MethodName) prog_6_method_4_code (2 : Nat) (Option.some Jvm.ClassFile.FieldType.boolean)) ∈ pd_B := pd_in1 (tb_2 _ (List.mem_of_getElem? (i := 228) rfl)) rfl
theorem wd_2_230 : (Jvm.Cond.methodLink "PathDecoder" (124 : Nat) ({ cls := "PathDecoder$Row", name := "numberAt", desc := "(I)I" } : Jvm.MethodName)) ∈ pd_B := pd_in1 (tb_2 _ (List.mem_of_getElem? (i := 230) rfl)) rfl
theorem wd_2_231 : (Jvm.Cond.instanceMethod ({ cls := "PathDecoder$Row", name := "numberAt", desc := "(I)I" } : Jvm.MethodName)) ∈ pd_B := pd_in1 (tb_2 _ (List.mem_of_getElem? (i := 231) rfl)) rfl
theorem wd_2_232 : (Jvm.Cond.selects "PathDecoder$Row" ({ cls := "PathDecoder$Row", name := "numberAt", desc := "(I)I" } : Jvm.MethodName) ({ cls := "PathDecoder$Row", name := "numberAt", desc := "(I)I" } : Jvm.MethodName)) ∈ pd_B := pd_in1 (tb_2 _ (List.mem_of_getElem? (i := 232) rfl)) rfl
theorem wd_2_233 : (Jvm.Cond.code ({ cls := "PathDecoder$Row", name := "numberAt", desc := "(I)I" } : Jvm.MethodName) prog_6_method_7_code (2 : Nat) (Option.some Jvm.ClassFile.FieldType.int)) ∈ pd_B := pd_in1 (tb_2 _ (List.mem_of_getElem? (i := 233) rfl)) rfl
theorem wd_2_234 : (Jvm.Cond.methodLink "PathDecoder$Row" (23 : Nat) ({ cls := "PathDecoder$Row", name := "has", desc := "(I)Z" } : Jvm.MethodName)) ∈ pd_B := pd_in1 (tb_2 _ (List.mem_of_getElem? (i := 234) rfl)) rfl
theorem wd_2_235 : (Jvm.Cond.methodLink "PathDecoder" (128 : Nat) ({ cls := "PathDecoder$Row", name := "change", desc := "(II)V" } : Jvm.MethodName)) ∈ pd_B := pd_in1 (tb_2 _ (List.mem_of_getElem? (i := 235) rfl)) rfl
theorem wd_2_236 : (Jvm.Cond.instanceMethod ({ cls := "PathDecoder$Row", name := "change", desc := "(II)V" } : Jvm.MethodName)) ∈ pd_B := pd_in1 (tb_2 _ (List.mem_of_getElem? (i := 236) rfl)) rfl
theorem wd_2_237 : (Jvm.Cond.selects "PathDecoder$Row" ({ cls := "PathDecoder$Row", name := "change", desc := "(II)V" } : Jvm.MethodName) ({ cls := "PathDecoder$Row", name := "change", desc := "(II)V" } : Jvm.MethodName)) ∈ pd_B := pd_in1 (tb_2 _ (List.mem_of_getElem? (i := 237) rfl)) rfl
theorem wd_2_238 : (Jvm.Cond.code ({ cls := "PathDecoder$Row", name := "change", desc := "(II)V" } : Jvm.MethodName) prog_6_method_9_code (3 : Nat) (Option.none : Option Jvm.ClassFile.FieldType)) ∈ pd_B := pd_in1 (tb_2 _ (List.mem_of_getElem? (i := 238) rfl)) rfl
theorem wd_2_239 : (Jvm.Cond.methodLink "PathDecoderLaw" (115 : Nat) ({ cls := "PathDecoderLaw", name := "five", desc := "(LPathDecoder;IIII[J)I" } : Jvm.MethodName)) ∈ pd_B := pd_in1 (tb_2 _ (List.mem_of_getElem? (i := 239) rfl)) rfl
theorem wd_3_0 : (Jvm.Cond.static ({ cls := "PathDecoderLaw", name := "five", desc := "(LPathDecoder;IIII[J)I" } : Jvm.MethodName)) ∈ pd_B := pd_in1 (tb_3 _ (List.mem_of_getElem? (i := 0) rfl)) rfl
theorem wd_3_1 : (Jvm.Cond.codeWith ({ cls := "PathDecoderLaw", name := "five", desc := "(LPathDecoder;IIII[J)I" } : Jvm.MethodName) method_5_code (7 : Nat) (Option.some Jvm.ClassFile.FieldType.int) [((0 : Nat), (14 : Nat), (17 : Nat), (13 : Nat)), ((0 : Nat), (14 : Nat), (21 : Nat), (21 : Nat))]) ∈ pd_B := pd_in1 (tb_3 _ (List.mem_of_getElem? (i := 1) rfl)) rfl
theorem wd_3_2 : (Jvm.Cond.methodLink "PathDecoderLaw" (23 : Nat) ({ cls := "PathDecoder", name := "five", desc := "(IIII)I" } : Jvm.MethodName)) ∈ pd_B := pd_in1 (tb_3 _ (List.mem_of_getElem? (i := 2) rfl)) rfl
theorem wd_3_3 : (Jvm.Cond.instanceMethod ({ cls := "PathDecoder", name := "five", desc := "(IIII)I" } : Jvm.MethodName)) ∈ pd_B := pd_in1 (tb_3 _ (List.mem_of_getElem? (i := 3) rfl)) rfl
theorem wd_3_4 : (Jvm.Cond.selects "PathDecoder" ({ cls := "PathDecoder", name := "five", desc := "(IIII)I" } : Jvm.MethodName) ({ cls := "PathDecoder", name := "five", desc := "(IIII)I" } : Jvm.MethodName)) ∈ pd_B := pd_in1 (tb_3 _ (List.mem_of_getElem? (i := 4) rfl)) rfl
theorem wd_3_5 : (Jvm.Cond.code ({ cls := "PathDecoder", name := "five", desc := "(IIII)I" } : Jvm.MethodName) prog_1_method_4_code (11 : Nat) (Option.some Jvm.ClassFile.FieldType.int)) ∈ pd_B := pd_in1 (tb_3 _ (List.mem_of_getElem? (i := 5) rfl)) rfl
theorem wd_3_6 : (Jvm.Cond.methodLink "PathDecoder" (135 : Nat) ({ cls := "PathDecoder$Row", name := "size", desc := "()I" } : Jvm.MethodName)) ∈ pd_B := pd_in1 (tb_3 _ (List.mem_of_getElem? (i := 6) rfl)) rfl
theorem wd_3_7 : (Jvm.Cond.instanceMethod ({ cls := "PathDecoder$Row", name := "size", desc := "()I" } : Jvm.MethodName)) ∈ pd_B := pd_in1 (tb_3 _ (List.mem_of_getElem? (i := 7) rfl)) rfl
theorem wd_3_8 : (Jvm.Cond.selects "PathDecoder$Row" ({ cls := "PathDecoder$Row", name := "size", desc := "()I" } : Jvm.MethodName) ({ cls := "PathDecoder$Row", name := "size", desc := "()I" } : Jvm.MethodName)) ∈ pd_B := pd_in1 (tb_3 _ (List.mem_of_getElem? (i := 8) rfl)) rfl
theorem wd_3_9 : (Jvm.Cond.code ({ cls := "PathDecoder$Row", name := "size", desc := "()I" } : Jvm.MethodName) prog_6_method_3_code (1 : Nat) (Option.some Jvm.ClassFile.FieldType.int)) ∈ pd_B := pd_in1 (tb_3 _ (List.mem_of_getElem? (i := 9) rfl)) rfl
theorem wd_3_10 : (Jvm.Cond.methodLink "PathDecoder" (139 : Nat) ({ cls := "PathDecoder", name := "bounded", desc := "(III)I" } : Jvm.MethodName)) ∈ pd_B := pd_in1 (tb_3 _ (List.mem_of_getElem? (i := 10) rfl)) rfl
theorem wd_3_11 : (Jvm.Cond.methodLink "PathDecoderLaw" (119 : Nat) ({ cls := "PathDecoderLaw", name := "at", desc := "(LPathDecoder;II[J)I" } : Jvm.MethodName)) ∈ pd_B := pd_in1 (tb_3 _ (List.mem_of_getElem? (i := 11) rfl)) rfl
theorem wd_3_12 : (Jvm.Cond.static ({ cls := "PathDecoderLaw", name := "at", desc := "(LPathDecoder;II[J)I" } : Jvm.MethodName)) ∈ pd_B := pd_in1 (tb_3 _ (List.mem_of_getElem? (i := 12) rfl)) rfl
theorem wd_3_13 : (Jvm.Cond.codeWith ({ cls := "PathDecoderLaw", name := "at", desc := "(LPathDecoder;II[J)I" } : Jvm.MethodName) method_6_code (5 : Nat) (Option.some Jvm.ClassFile.FieldType.int) [((0 : Nat), (10 : Nat), (13 : Nat), (13 : Nat)), ((0 : Nat), (10 : Nat), (17 : Nat), (21 : Nat))]) ∈ pd_B := pd_in1 (tb_3 _ (List.mem_of_getElem? (i := 13) rfl)) rfl
theorem wd_3_14 : (Jvm.Cond.methodLink "PathDecoderLaw" (27 : Nat) ({ cls := "PathDecoder", name := "at", desc := "(II)I" } : Jvm.MethodName)) ∈ pd_B := pd_in1 (tb_3 _ (List.mem_of_getElem? (i := 14) rfl)) rfl
theorem wd_3_15 : (Jvm.Cond.instanceMethod ({ cls := "PathDecoder", name := "at", desc := "(II)I" } : Jvm.MethodName)) ∈ pd_B := pd_in1 (tb_3 _ (List.mem_of_getElem? (i := 15) rfl)) rfl
theorem wd_3_16 : (Jvm.Cond.selects "PathDecoder" ({ cls := "PathDecoder", name := "at", desc := "(II)I" } : Jvm.MethodName) ({ cls := "PathDecoder", name := "at", desc := "(II)I" } : Jvm.MethodName)) ∈ pd_B := pd_in1 (tb_3 _ (List.mem_of_getElem? (i := 16) rfl)) rfl
theorem wd_3_17 : (Jvm.Cond.code ({ cls := "PathDecoder", name := "at", desc := "(II)I" } : Jvm.MethodName) prog_1_method_5_code (3 : Nat) (Option.some Jvm.ClassFile.FieldType.int)) ∈ pd_B := pd_in1 (tb_3 _ (List.mem_of_getElem? (i := 17) rfl)) rfl
theorem wd_3_18 : (Jvm.Cond.methodLink "PathDecoderLaw" (122 : Nat) ({ cls := "PathDecoderLaw", name := "tear", desc := "(LPathDecoder;II[J)I" } : Jvm.MethodName)) ∈ pd_B := pd_in1 (tb_3 _ (List.mem_of_getElem? (i := 18) rfl)) rfl
theorem wd_3_19 : (Jvm.Cond.static ({ cls := "PathDecoderLaw", name := "tear", desc := "(LPathDecoder;II[J)I" } : Jvm.MethodName)) ∈ pd_B := pd_in1 (tb_3 _ (List.mem_of_getElem? (i := 19) rfl)) rfl
theorem wd_3_20 : (Jvm.Cond.codeWith ({ cls := "PathDecoderLaw", name := "tear", desc := "(LPathDecoder;II[J)I" } : Jvm.MethodName) method_7_code (5 : Nat) (Option.some Jvm.ClassFile.FieldType.int) [((0 : Nat), (10 : Nat), (13 : Nat), (13 : Nat)), ((0 : Nat), (10 : Nat), (17 : Nat), (21 : Nat))]) ∈ pd_B := pd_in1 (tb_3 _ (List.mem_of_getElem? (i := 20) rfl)) rfl
theorem wd_3_21 : (Jvm.Cond.methodLink "PathDecoderLaw" (31 : Nat) ({ cls := "PathDecoder", name := "tear", desc := "(II)I" } : Jvm.MethodName)) ∈ pd_B := pd_in1 (tb_3 _ (List.mem_of_getElem? (i := 21) rfl)) rfl
theorem wd_3_22 : (Jvm.Cond.instanceMethod ({ cls := "PathDecoder", name := "tear", desc := "(II)I" } : Jvm.MethodName)) ∈ pd_B := pd_in1 (tb_3 _ (List.mem_of_getElem? (i := 22) rfl)) rfl
theorem wd_3_23 : (Jvm.Cond.selects "PathDecoder" ({ cls := "PathDecoder", name := "tear", desc := "(II)I" } : Jvm.MethodName) ({ cls := "PathDecoder", name := "tear", desc := "(II)I" } : Jvm.MethodName)) ∈ pd_B := pd_in1 (tb_3 _ (List.mem_of_getElem? (i := 23) rfl)) rfl
theorem wd_3_24 : (Jvm.Cond.code ({ cls := "PathDecoder", name := "tear", desc := "(II)I" } : Jvm.MethodName) prog_1_method_6_code (5 : Nat) (Option.some Jvm.ClassFile.FieldType.int)) ∈ pd_B := pd_in1 (tb_3 _ (List.mem_of_getElem? (i := 24) rfl)) rfl
theorem wd_3_25 : (Jvm.Cond.methodLink "PathDecoder" (143 : Nat) ({ cls := "PathDecoder$Row", name := "shorten", desc := "(I)V" } : Jvm.MethodName)) ∈ pd_B := pd_in1 (tb_3 _ (List.mem_of_getElem? (i := 25) rfl)) rfl
theorem wd_3_26 : (Jvm.Cond.instanceMethod ({ cls := "PathDecoder$Row", name := "shorten", desc := "(I)V" } : Jvm.MethodName)) ∈ pd_B := pd_in1 (tb_3 _ (List.mem_of_getElem? (i := 26) rfl)) rfl
theorem wd_3_27 : (Jvm.Cond.selects "PathDecoder$Row" ({ cls := "PathDecoder$Row", name := "shorten", desc := "(I)V" } : Jvm.MethodName) ({ cls := "PathDecoder$Row", name := "shorten", desc := "(I)V" } : Jvm.MethodName)) ∈ pd_B := pd_in1 (tb_3 _ (List.mem_of_getElem? (i := 27) rfl)) rfl
theorem wd_3_28 : (Jvm.Cond.code ({ cls := "PathDecoder$Row", name := "shorten", desc := "(I)V" } : Jvm.MethodName) prog_6_method_6_code (2 : Nat) (Option.none : Option Jvm.ClassFile.FieldType)) ∈ pd_B := pd_in1 (tb_3 _ (List.mem_of_getElem? (i := 28) rfl)) rfl
theorem wd_3_29 : (Jvm.Cond.methodLink "PathDecoderLaw" (125 : Nat) ({ cls := "PathDecoderLaw", name := "noise", desc := "(LPathDecoder;III[J)I" } : Jvm.MethodName)) ∈ pd_B := pd_in1 (tb_3 _ (List.mem_of_getElem? (i := 29) rfl)) rfl
theorem wd_3_30 : (Jvm.Cond.static ({ cls := "PathDecoderLaw", name := "noise", desc := "(LPathDecoder;III[J)I" } : Jvm.MethodName)) ∈ pd_B := pd_in1 (tb_3 _ (List.mem_of_getElem? (i := 30) rfl)) rfl
theorem wd_3_31 : (Jvm.Cond.codeWith ({ cls := "PathDecoderLaw", name := "noise", desc := "(LPathDecoder;III[J)I" } : Jvm.MethodName) method_8_code (6 : Nat) (Option.some Jvm.ClassFile.FieldType.int) [((0 : Nat), (12 : Nat), (15 : Nat), (15 : Nat))]) ∈ pd_B := pd_in1 (tb_3 _ (List.mem_of_getElem? (i := 31) rfl)) rfl
theorem wd_3_32 : (Jvm.Cond.methodLink "PathDecoderLaw" (34 : Nat) ({ cls := "PathDecoder", name := "noise", desc := "(III)I" } : Jvm.MethodName)) ∈ pd_B := pd_in1 (tb_3 _ (List.mem_of_getElem? (i := 32) rfl)) rfl
theorem wd_3_33 : (Jvm.Cond.instanceMethod ({ cls := "PathDecoder", name := "noise", desc := "(III)I" } : Jvm.MethodName)) ∈ pd_B := pd_in1 (tb_3 _ (List.mem_of_getElem? (i := 33) rfl)) rfl
theorem wd_3_34 : (Jvm.Cond.selects "PathDecoder" ({ cls := "PathDecoder", name := "noise", desc := "(III)I" } : Jvm.MethodName) ({ cls := "PathDecoder", name := "noise", desc := "(III)I" } : Jvm.MethodName)) ∈ pd_B := pd_in1 (tb_3 _ (List.mem_of_getElem? (i := 34) rfl)) rfl
theorem wd_3_35 : (Jvm.Cond.code ({ cls := "PathDecoder", name := "noise", desc := "(III)I" } : Jvm.MethodName) prog_1_method_7_code (4 : Nat) (Option.some Jvm.ClassFile.FieldType.int)) ∈ pd_B := pd_in1 (tb_3 _ (List.mem_of_getElem? (i := 35) rfl)) rfl
theorem wd_3_37 : (Jvm.Cond.methodLink "PathDecoder" (148 : Nat) ({ cls := "PathDecoder$Received", name := "setCosts", desc := "(III)I" } : Jvm.MethodName)) ∈ pd_B := pd_in1 (tb_3 _ (List.mem_of_getElem? (i := 37) rfl)) rfl
theorem wd_3_38 : (Jvm.Cond.instanceMethod ({ cls := "PathDecoder$Received", name := "setCosts", desc := "(III)I" } : Jvm.MethodName)) ∈ pd_B := pd_in1 (tb_3 _ (List.mem_of_getElem? (i := 38) rfl)) rfl
theorem wd_3_39 : (Jvm.Cond.selects "PathDecoder$Received" ({ cls := "PathDecoder$Received", name := "setCosts", desc := "(III)I" } : Jvm.MethodName) ({ cls := "PathDecoder$Received", name := "setCosts", desc := "(III)I" } : Jvm.MethodName)) ∈ pd_B := pd_in1 (tb_3 _ (List.mem_of_getElem? (i := 39) rfl)) rfl
theorem wd_3_40 : (Jvm.Cond.code ({ cls := "PathDecoder$Received", name := "setCosts", desc := "(III)I" } : Jvm.MethodName) prog_5_method_2_code (5 : Nat) (Option.some Jvm.ClassFile.FieldType.int)) ∈ pd_B := pd_in1 (tb_3 _ (List.mem_of_getElem? (i := 40) rfl)) rfl
theorem wd_3_41 : (Jvm.Cond.methodLink "PathDecoderLaw" (128 : Nat) ({ cls := "PathDecoderLaw", name := "code", desc := "(LPathDecoder;III[J)I" } : Jvm.MethodName)) ∈ pd_B := pd_in1 (tb_3 _ (List.mem_of_getElem? (i := 41) rfl)) rfl
theorem wd_3_42 : (Jvm.Cond.static ({ cls := "PathDecoderLaw", name := "code", desc := "(LPathDecoder;III[J)I" } : Jvm.MethodName)) ∈ pd_B := pd_in1 (tb_3 _ (List.mem_of_getElem? (i := 42) rfl)) rfl
theorem wd_3_43 : (Jvm.Cond.codeWith ({ cls := "PathDecoderLaw", name := "code", desc := "(LPathDecoder;III[J)I" } : Jvm.MethodName) method_9_code (6 : Nat) (Option.some Jvm.ClassFile.FieldType.int) [((0 : Nat), (12 : Nat), (15 : Nat), (15 : Nat))]) ∈ pd_B := pd_in1 (tb_3 _ (List.mem_of_getElem? (i := 43) rfl)) rfl
theorem wd_3_44 : (Jvm.Cond.methodLink "PathDecoderLaw" (37 : Nat) ({ cls := "PathDecoder", name := "code", desc := "(III)I" } : Jvm.MethodName)) ∈ pd_B := pd_in1 (tb_3 _ (List.mem_of_getElem? (i := 44) rfl)) rfl
theorem wd_3_45 : (Jvm.Cond.instanceMethod ({ cls := "PathDecoder", name := "code", desc := "(III)I" } : Jvm.MethodName)) ∈ pd_B := pd_in1 (tb_3 _ (List.mem_of_getElem? (i := 45) rfl)) rfl
theorem wd_3_46 : (Jvm.Cond.selects "PathDecoder" ({ cls := "PathDecoder", name := "code", desc := "(III)I" } : Jvm.MethodName) ({ cls := "PathDecoder", name := "code", desc := "(III)I" } : Jvm.MethodName)) ∈ pd_B := pd_in1 (tb_3 _ (List.mem_of_getElem? (i := 46) rfl)) rfl
theorem wd_3_47 : (Jvm.Cond.code ({ cls := "PathDecoder", name := "code", desc := "(III)I" } : Jvm.MethodName) prog_1_method_8_code (4 : Nat) (Option.some Jvm.ClassFile.FieldType.int)) ∈ pd_B := pd_in1 (tb_3 _ (List.mem_of_getElem? (i := 47) rfl)) rfl
theorem wd_3_51 : (Jvm.Cond.instantiable "PathDecoder$Code" (8 : Nat)) ∈ pd_B := pd_in1 (tb_3 _ (List.mem_of_getElem? (i := 51) rfl)) rfl
theorem wd_3_52 : (Jvm.Cond.methodLink "PathDecoder" (157 : Nat) ({ cls := "PathDecoder$Code", name := "<init>", desc := "(III)V" } : Jvm.MethodName)) ∈ pd_B := pd_in1 (tb_3 _ (List.mem_of_getElem? (i := 52) rfl)) rfl
theorem wd_3_53 : (Jvm.Cond.instanceMethod ({ cls := "PathDecoder$Code", name := "<init>", desc := "(III)V" } : Jvm.MethodName)) ∈ pd_B := pd_in1 (tb_3 _ (List.mem_of_getElem? (i := 53) rfl)) rfl
theorem wd_3_54 : (Jvm.Cond.code ({ cls := "PathDecoder$Code", name := "<init>", desc := "(III)V" } : Jvm.MethodName) prog_2_method_1_code (5 : Nat) (Option.none : Option Jvm.ClassFile.FieldType)) ∈ pd_B := pd_in1 (tb_3 _ (List.mem_of_getElem? (i := 54) rfl)) rfl
theorem wd_3_55 : (Jvm.Cond.methodLink "PathDecoder$Code" (3 : Nat) ({ cls := "java/lang/Object", name := "<init>", desc := "()V" } : Jvm.MethodName)) ∈ pd_B := pd_in1 (tb_3 _ (List.mem_of_getElem? (i := 55) rfl)) rfl
theorem wd_3_56 : (Jvm.Cond.fieldLink "PathDecoder$Code" (28 : Nat) "PathDecoder$Code" "kind" "I") ∈ pd_B := pd_in1 (tb_3 _ (List.mem_of_getElem? (i := 56) rfl)) rfl
theorem wd_3_57 : (Jvm.Cond.fieldLink "PathDecoder$Message" (24 : Nat) "PathDecoder$Code" "kind" "I") ∈ pd_B := pd_in1 (tb_3 _ (List.mem_of_getElem? (i := 57) rfl)) rfl
theorem wd_3_58 : (Jvm.Cond.fieldLink "PathDecoder$Lattice" (40 : Nat) "PathDecoder$Code" "kind" "I") ∈ pd_B := pd_in1 (tb_3 _ (List.mem_of_getElem? (i := 58) rfl)) rfl
theorem wd_3_59 : (Jvm.Cond.fieldLink "PathDecoder$Search" (121 : Nat) "PathDecoder$Code" "kind" "I") ∈ pd_B := pd_in1 (tb_3 _ (List.mem_of_getElem? (i := 59) rfl)) rfl
theorem wd_3_60 : (Jvm.Cond.fieldLink "PathDecoder" (207 : Nat) "PathDecoder$Code" "kind" "I") ∈ pd_B := pd_in1 (tb_3 _ (List.mem_of_getElem? (i := 60) rfl)) rfl
theorem wd_3_61 : (Jvm.Cond.fieldLink "PathDecoder$Code" (31 : Nat) "PathDecoder$Code" "cells" "I") ∈ pd_B := pd_in1 (tb_3 _ (List.mem_of_getElem? (i := 61) rfl)) rfl
theorem wd_3_62 : (Jvm.Cond.fieldLink "PathDecoder" (177 : Nat) "PathDecoder$Code" "cells" "I") ∈ pd_B := pd_in1 (tb_3 _ (List.mem_of_getElem? (i := 62) rfl)) rfl
theorem wd_3_63 : (Jvm.Cond.fieldLink "PathDecoder$Code" (34 : Nat) "PathDecoder$Code" "outs" "I") ∈ pd_B := pd_in1 (tb_3 _ (List.mem_of_getElem? (i := 63) rfl)) rfl
theorem wd_3_64 : (Jvm.Cond.fieldLink "PathDecoder$Message" (63 : Nat) "PathDecoder$Code" "outs" "I") ∈ pd_B := pd_in1 (tb_3 _ (List.mem_of_getElem? (i := 64) rfl)) rfl
theorem wd_3_65 : (Jvm.Cond.fieldLink "PathDecoder$Turns" (95 : Nat) "PathDecoder$Code" "outs" "I") ∈ pd_B := pd_in1 (tb_3 _ (List.mem_of_getElem? (i := 65) rfl)) rfl
theorem wd_3_66 : (Jvm.Cond.fieldLink "PathDecoder" (172 : Nat) "PathDecoder$Code" "outs" "I") ∈ pd_B := pd_in1 (tb_3 _ (List.mem_of_getElem? (i := 66) rfl)) rfl
theorem wd_3_67 : (Jvm.Cond.fieldLink "PathDecoder$Code" (9 : Nat) "PathDecoder$Code" "taps" "[I") ∈ pd_B := pd_in1 (tb_3 _ (List.mem_of_getElem? (i := 67) rfl)) rfl
theorem wd_3_68 : (Jvm.Cond.fieldLink "PathDecoder" (186 : Nat) "PathDecoder$Code" "taps" "[I") ∈ pd_B := pd_in1 (tb_3 _ (List.mem_of_getElem? (i := 68) rfl)) rfl
theorem wd_3_69 : (Jvm.Cond.fieldLink "PathDecoder$Code" (15 : Nat) "PathDecoder$Code" "feed" "I") ∈ pd_B := pd_in1 (tb_3 _ (List.mem_of_getElem? (i := 69) rfl)) rfl
theorem wd_3_70 : (Jvm.Cond.fieldLink "PathDecoder" (183 : Nat) "PathDecoder$Code" "feed" "I") ∈ pd_B := pd_in1 (tb_3 _ (List.mem_of_getElem? (i := 70) rfl)) rfl
theorem wd_3_71 : (Jvm.Cond.fieldLink "PathDecoder$Code" (19 : Nat) "PathDecoder$Code" "period" "I") ∈ pd_B := pd_in1 (tb_3 _ (List.mem_of_getElem? (i := 71) rfl)) rfl
theorem wd_3_72 : (Jvm.Cond.fieldLink "PathDecoder" (201 : Nat) "PathDecoder$Code" "period" "I") ∈ pd_B := pd_in1 (tb_3 _ (List.mem_of_getElem? (i := 72) rfl)) rfl
theorem wd_3_73 : (Jvm.Cond.fieldLink "PathDecoder$Code" (22 : Nat) "PathDecoder$Code" "stride" "I") ∈ pd_B := pd_in1 (tb_3 _ (List.mem_of_getElem? (i := 73) rfl)) rfl
theorem wd_3_74 : (Jvm.Cond.fieldLink "PathDecoder" (214 : Nat) "PathDecoder$Code" "stride" "I") ∈ pd_B := pd_in1 (tb_3 _ (List.mem_of_getElem? (i := 74) rfl)) rfl
theorem wd_3_75 : (Jvm.Cond.fieldLink "PathDecoder$Code" (25 : Nat) "PathDecoder$Code" "keeps" "[I") ∈ pd_B := pd_in1 (tb_3 _ (List.mem_of_getElem? (i := 75) rfl)) rfl
theorem wd_3_76 : (Jvm.Cond.laysFinal "PathDecoder$Code" "PathDecoder$Code" "kind" "I") ∈ pd_B := pd_in1 (tb_3 _ (List.mem_of_getElem? (i := 76) rfl)) rfl
theorem wd_3_78 : (Jvm.Cond.laysFinal "PathDecoder$Code" "PathDecoder$Code" "cells" "I") ∈ pd_B := pd_in1 (tb_3 _ (List.mem_of_getElem? (i := 78) rfl)) rfl
theorem wd_3_80 : (Jvm.Cond.laysFinal "PathDecoder$Code" "PathDecoder$Code" "outs" "I") ∈ pd_B := pd_in1 (tb_3 _ (List.mem_of_getElem? (i := 80) rfl)) rfl
theorem wd_3_82 : (Jvm.Cond.laysFinal "PathDecoder$Code" "PathDecoder$Code" "taps" "[I") ∈ pd_B := pd_in1 (tb_3 _ (List.mem_of_getElem? (i := 82) rfl)) rfl
theorem wd_3_84 : (Jvm.Cond.lays "PathDecoder$Code" "PathDecoder$Code" "feed" "I") ∈ pd_B := pd_in1 (tb_3 _ (List.mem_of_getElem? (i := 84) rfl)) rfl
theorem wd_3_86 : (Jvm.Cond.lays "PathDecoder$Code" "PathDecoder$Code" "period" "I") ∈ pd_B := pd_in1 (tb_3 _ (List.mem_of_getElem? (i := 86) rfl)) rfl
theorem wd_3_88 : (Jvm.Cond.lays "PathDecoder$Code" "PathDecoder$Code" "stride" "I") ∈ pd_B := pd_in1 (tb_3 _ (List.mem_of_getElem? (i := 88) rfl)) rfl
theorem wd_3_90 : (Jvm.Cond.laysFinal "PathDecoder$Code" "PathDecoder$Code" "keeps" "[I") ∈ pd_B := pd_in1 (tb_3 _ (List.mem_of_getElem? (i := 90) rfl)) rfl
theorem wd_3_93 : (Jvm.Cond.methodLink "PathDecoderLaw" (131 : Nat) ({ cls := "PathDecoderLaw", name := "tap", desc := "(LPathDecoder;III[J)I" } : Jvm.MethodName)) ∈ pd_B := pd_in1 (tb_3 _ (List.mem_of_getElem? (i := 93) rfl)) rfl
theorem wd_3_94 : (Jvm.Cond.static ({ cls := "PathDecoderLaw", name := "tap", desc := "(LPathDecoder;III[J)I" } : Jvm.MethodName)) ∈ pd_B := pd_in1 (tb_3 _ (List.mem_of_getElem? (i := 94) rfl)) rfl
theorem wd_3_95 : (Jvm.Cond.codeWith ({ cls := "PathDecoderLaw", name := "tap", desc := "(LPathDecoder;III[J)I" } : Jvm.MethodName) method_10_code (6 : Nat) (Option.some Jvm.ClassFile.FieldType.int) [((0 : Nat), (12 : Nat), (15 : Nat), (13 : Nat)), ((0 : Nat), (12 : Nat), (19 : Nat), (21 : Nat)), ((0 : Nat), (12 : Nat), (23 : Nat), (15 : Nat))]) ∈ pd_B := pd_in1 (tb_3 _ (List.mem_of_getElem? (i := 95) rfl)) rfl
theorem wd_3_96 : (Jvm.Cond.methodLink "PathDecoderLaw" (40 : Nat) ({ cls := "PathDecoder", name := "tap", desc := "(III)I" } : Jvm.MethodName)) ∈ pd_B := pd_in1 (tb_3 _ (List.mem_of_getElem? (i := 96) rfl)) rfl
theorem wd_3_97 : (Jvm.Cond.instanceMethod ({ cls := "PathDecoder", name := "tap", desc := "(III)I" } : Jvm.MethodName)) ∈ pd_B := pd_in1 (tb_3 _ (List.mem_of_getElem? (i := 97) rfl)) rfl
theorem wd_3_98 : (Jvm.Cond.selects "PathDecoder" ({ cls := "PathDecoder", name := "tap", desc := "(III)I" } : Jvm.MethodName) ({ cls := "PathDecoder", name := "tap", desc := "(III)I" } : Jvm.MethodName)) ∈ pd_B := pd_in1 (tb_3 _ (List.mem_of_getElem? (i := 98) rfl)) rfl
theorem wd_3_99 : (Jvm.Cond.code ({ cls := "PathDecoder", name := "tap", desc := "(III)I" } : Jvm.MethodName) prog_1_method_9_code (6 : Nat) (Option.some Jvm.ClassFile.FieldType.int)) ∈ pd_B := pd_in1 (tb_3 _ (List.mem_of_getElem? (i := 99) rfl)) rfl
theorem wd_3_100 : (Jvm.Cond.methodLink "PathDecoder" (160 : Nat) ({ cls := "PathDecoder", name := "codeOf", desc := "(I)LPathDecoder$Code;" } : Jvm.MethodName)) ∈ pd_B := pd_in1 (tb_3 _ (List.mem_of_getElem? (i := 100) rfl)) rfl
theorem wd_3_102 : (Jvm.Cond.instanceMethod ({ cls := "PathDecoder", name := "codeOf", desc := "(I)LPathDecoder$Code;" } : Jvm.MethodName)) ∈ pd_B := pd_in1 (tb_3 _ (List.mem_of_getElem? (i := 102) rfl)) rfl
theorem wd_3_103 : (Jvm.Cond.code ({ cls := "PathDecoder", name := "codeOf", desc := "(I)LPathDecoder$Code;" } : Jvm.MethodName) prog_1_method_31_code (3 : Nat) (Option.some (Jvm.ClassFile.FieldType.object "PathDecoder$Code"))) ∈ pd_B := pd_in1 (tb_3 _ (List.mem_of_getElem? (i := 103) rfl)) rfl
theorem wd_3_105 : (Jvm.Cond.methodLink "PathDecoder" (164 : Nat) ({ cls := "PathDecoder$Code", name := "isFed", desc := "()Z" } : Jvm.MethodName)) ∈ pd_B := pd_in1 (tb_3 _ (List.mem_of_getElem? (i := 105) rfl)) rfl
theorem wd_3_106 : (Jvm.Cond.instanceMethod ({ cls := "PathDecoder$Code", name := "isFed", desc := "()Z" } : Jvm.MethodName)) ∈ pd_B := pd_in1 (tb_3 _ (List.mem_of_getElem? (i := 106) rfl)) rfl
theorem wd_3_107 : (Jvm.Cond.selects "PathDecoder$Code" ({ cls := "PathDecoder$Code", name := "isFed", desc := "()Z" } : Jvm.MethodName) ({ cls := "PathDecoder$Code", name := "isFed", desc := "()Z" } : Jvm.MethodName)) ∈ pd_B := pd_in1 (tb_3 _ (List.mem_of_getElem? (i := 107) rfl)) rfl
theorem wd_3_108 : (Jvm.Cond.code ({ cls := "PathDecoder$Code", name := "isFed", desc := "()Z" } : Jvm.MethodName) prog_2_method_2_code (1 : Nat) (Option.some Jvm.ClassFile.FieldType.boolean)) ∈ pd_B := pd_in1 (tb_3 _ (List.mem_of_getElem? (i := 108) rfl)) rfl
theorem wd_3_111 : (Jvm.Cond.methodLink "PathDecoder" (180 : Nat) ({ cls := "PathDecoder", name := "demandBits", desc := "(II)V" } : Jvm.MethodName)) ∈ pd_B := pd_in1 (tb_3 _ (List.mem_of_getElem? (i := 111) rfl)) rfl
theorem wd_3_112 : (Jvm.Cond.static ({ cls := "PathDecoder", name := "demandBits", desc := "(II)V" } : Jvm.MethodName)) ∈ pd_B := pd_in1 (tb_3 _ (List.mem_of_getElem? (i := 112) rfl)) rfl
theorem wd_3_113 : (Jvm.Cond.code ({ cls := "PathDecoder", name := "demandBits", desc := "(II)V" } : Jvm.MethodName) prog_1_method_36_code (2 : Nat) (Option.none : Option Jvm.ClassFile.FieldType)) ∈ pd_B := pd_in1 (tb_3 _ (List.mem_of_getElem? (i := 113) rfl)) rfl
theorem wd_3_115 : (Jvm.Cond.methodLink "PathDecoderLaw" (134 : Nat) ({ cls := "PathDecoderLaw", name := "keep", desc := "(LPathDecoder;IIII[J)I" } : Jvm.MethodName)) ∈ pd_B := pd_in1 (tb_3 _ (List.mem_of_getElem? (i := 115) rfl)) rfl
theorem wd_3_116 : (Jvm.Cond.static ({ cls := "PathDecoderLaw", name := "keep", desc := "(LPathDecoder;IIII[J)I" } : Jvm.MethodName)) ∈ pd_B := pd_in1 (tb_3 _ (List.mem_of_getElem? (i := 116) rfl)) rfl
theorem wd_3_117 : (Jvm.Cond.codeWith ({ cls := "PathDecoderLaw", name := "keep", desc := "(LPathDecoder;IIII[J)I" } : Jvm.MethodName) method_11_code (7 : Nat) (Option.some Jvm.ClassFile.FieldType.int) [((0 : Nat), (14 : Nat), (17 : Nat), (13 : Nat)), ((0 : Nat), (14 : Nat), (21 : Nat), (21 : Nat)), ((0 : Nat), (14 : Nat), (25 : Nat), (15 : Nat))]) ∈ pd_B := pd_in1 (tb_3 _ (List.mem_of_getElem? (i := 117) rfl)) rfl
theorem wd_3_118 : (Jvm.Cond.methodLink "PathDecoderLaw" (43 : Nat) ({ cls := "PathDecoder", name := "keep", desc := "(IIII)I" } : Jvm.MethodName)) ∈ pd_B := pd_in1 (tb_3 _ (List.mem_of_getElem? (i := 118) rfl)) rfl
theorem wd_3_119 : (Jvm.Cond.instanceMethod ({ cls := "PathDecoder", name := "keep", desc := "(IIII)I" } : Jvm.MethodName)) ∈ pd_B := pd_in1 (tb_3 _ (List.mem_of_getElem? (i := 119) rfl)) rfl
theorem wd_3_120 : (Jvm.Cond.selects "PathDecoder" ({ cls := "PathDecoder", name := "keep", desc := "(IIII)I" } : Jvm.MethodName) ({ cls := "PathDecoder", name := "keep", desc := "(IIII)I" } : Jvm.MethodName)) ∈ pd_B := pd_in1 (tb_3 _ (List.mem_of_getElem? (i := 120) rfl)) rfl
theorem wd_3_121 : (Jvm.Cond.code ({ cls := "PathDecoder", name := "keep", desc := "(IIII)I" } : Jvm.MethodName) prog_1_method_10_code (7 : Nat) (Option.some Jvm.ClassFile.FieldType.int)) ∈ pd_B := pd_in1 (tb_3 _ (List.mem_of_getElem? (i := 121) rfl)) rfl
theorem wd_3_122 : (Jvm.Cond.methodLink "PathDecoder" (189 : Nat) ({ cls := "PathDecoder$Code", name := "isCut", desc := "()Z" } : Jvm.MethodName)) ∈ pd_B := pd_in1 (tb_3 _ (List.mem_of_getElem? (i := 122) rfl)) rfl
theorem wd_3_123 : (Jvm.Cond.instanceMethod ({ cls := "PathDecoder$Code", name := "isCut", desc := "()Z" } : Jvm.MethodName)) ∈ pd_B := pd_in1 (tb_3 _ (List.mem_of_getElem? (i := 123) rfl)) rfl
theorem wd_3_124 : (Jvm.Cond.selects "PathDecoder$Code" ({ cls := "PathDecoder$Code", name := "isCut", desc := "()Z" } : Jvm.MethodName) ({ cls := "PathDecoder$Code", name := "isCut", desc := "()Z" } : Jvm.MethodName)) ∈ pd_B := pd_in1 (tb_3 _ (List.mem_of_getElem? (i := 124) rfl)) rfl
theorem wd_3_125 : (Jvm.Cond.code ({ cls := "PathDecoder$Code", name := "isCut", desc := "()Z" } : Jvm.MethodName) prog_2_method_3_code (1 : Nat) (Option.some Jvm.ClassFile.FieldType.boolean)) ∈ pd_B := pd_in1 (tb_3 _ (List.mem_of_getElem? (i := 125) rfl)) rfl
theorem wd_3_129 : (Jvm.Cond.methodLink "PathDecoder" (198 : Nat) ({ cls := "PathDecoder$Code", name := "width", desc := "()I" } : Jvm.MethodName)) ∈ pd_B := pd_in1 (tb_3 _ (List.mem_of_getElem? (i := 129) rfl)) rfl
theorem wd_3_130 : (Jvm.Cond.instanceMethod ({ cls := "PathDecoder$Code", name := "width", desc := "()I" } : Jvm.MethodName)) ∈ pd_B := pd_in1 (tb_3 _ (List.mem_of_getElem? (i := 130) rfl)) rfl
theorem wd_3_131 : (Jvm.Cond.selects "PathDecoder$Code" ({ cls := "PathDecoder$Code", name := "width", desc := "()I" } : Jvm.MethodName) ({ cls := "PathDecoder$Code", name := "width", desc := "()I" } : Jvm.MethodName)) ∈ pd_B := pd_in1 (tb_3 _ (List.mem_of_getElem? (i := 131) rfl)) rfl
theorem wd_3_132 : (Jvm.Cond.code ({ cls := "PathDecoder$Code", name := "width", desc := "()I" } : Jvm.MethodName) prog_2_method_5_code (1 : Nat) (Option.some Jvm.ClassFile.FieldType.int)) ∈ pd_B := pd_in1 (tb_3 _ (List.mem_of_getElem? (i := 132) rfl)) rfl
theorem wd_3_133 : (Jvm.Cond.methodLink "PathDecoder" (204 : Nat) ({ cls := "PathDecoder$Code", name := "setKeep", desc := "(III)V" } : Jvm.MethodName)) ∈ pd_B := pd_in1 (tb_3 _ (List.mem_of_getElem? (i := 133) rfl)) rfl
theorem wd_3_134 : (Jvm.Cond.instanceMethod ({ cls := "PathDecoder$Code", name := "setKeep", desc := "(III)V" } : Jvm.MethodName)) ∈ pd_B := pd_in1 (tb_3 _ (List.mem_of_getElem? (i := 134) rfl)) rfl
theorem wd_3_135 : (Jvm.Cond.selects "PathDecoder$Code" ({ cls := "PathDecoder$Code", name := "setKeep", desc := "(III)V" } : Jvm.MethodName) ({ cls := "PathDecoder$Code", name := "setKeep", desc := "(III)V" } : Jvm.MethodName)) ∈ pd_B := pd_in1 (tb_3 _ (List.mem_of_getElem? (i := 135) rfl)) rfl
theorem wd_3_136 : (Jvm.Cond.code ({ cls := "PathDecoder$Code", name := "setKeep", desc := "(III)V" } : Jvm.MethodName) prog_2_method_8_code (5 : Nat) (Option.none : Option Jvm.ClassFile.FieldType)) ∈ pd_B := pd_in1 (tb_3 _ (List.mem_of_getElem? (i := 136) rfl)) rfl
theorem wd_3_137 : (Jvm.Cond.methodLink "PathDecoder$Code" (41 : Nat) ({ cls := "java/lang/Math", name := "min", desc := "(II)I" } : Jvm.MethodName)) ∈ pd_B := pd_in1 (tb_3 _ (List.mem_of_getElem? (i := 137) rfl)) rfl
theorem wd_3_138 : (Jvm.Cond.methodLink "PathDecoderLaw" (137 : Nat) ({ cls := "PathDecoderLaw", name := "stride", desc := "(LPathDecoder;II[J)I" } : Jvm.MethodName)) ∈ pd_B := pd_in1 (tb_3 _ (List.mem_of_getElem? (i := 138) rfl)) rfl
theorem wd_3_139 : (Jvm.Cond.static ({ cls := "PathDecoderLaw", name := "stride", desc := "(LPathDecoder;II[J)I" } : Jvm.MethodName)) ∈ pd_B := pd_in1 (tb_3 _ (List.mem_of_getElem? (i := 139) rfl)) rfl
theorem wd_3_140 : (Jvm.Cond.codeWith ({ cls := "PathDecoderLaw", name := "stride", desc := "(LPathDecoder;II[J)I" } : Jvm.MethodName) method_12_code (5 : Nat) (Option.some Jvm.ClassFile.FieldType.int) [((0 : Nat), (10 : Nat), (13 : Nat), (13 : Nat)), ((0 : Nat), (10 : Nat), (17 : Nat), (21 : Nat)), ((0 : Nat), (10 : Nat), (21 : Nat), (15 : Nat))]) ∈ pd_B := pd_in1 (tb_3 _ (List.mem_of_getElem? (i := 140) rfl)) rfl
theorem wd_3_141 : (Jvm.Cond.methodLink "PathDecoderLaw" (46 : Nat) ({ cls := "PathDecoder", name := "stride", desc := "(II)I" } : Jvm.MethodName)) ∈ pd_B := pd_in1 (tb_3 _ (List.mem_of_getElem? (i := 141) rfl)) rfl
theorem wd_3_142 : (Jvm.Cond.instanceMethod ({ cls := "PathDecoder", name := "stride", desc := "(II)I" } : Jvm.MethodName)) ∈ pd_B := pd_in1 (tb_3 _ (List.mem_of_getElem? (i := 142) rfl)) rfl
theorem wd_3_143 : (Jvm.Cond.selects "PathDecoder" ({ cls := "PathDecoder", name := "stride", desc := "(II)I" } : Jvm.MethodName) ({ cls := "PathDecoder", name := "stride", desc := "(II)I" } : Jvm.MethodName)) ∈ pd_B := pd_in1 (tb_3 _ (List.mem_of_getElem? (i := 143) rfl)) rfl
theorem wd_3_144 : (Jvm.Cond.code ({ cls := "PathDecoder", name := "stride", desc := "(II)I" } : Jvm.MethodName) prog_1_method_11_code (5 : Nat) (Option.some Jvm.ClassFile.FieldType.int)) ∈ pd_B := pd_in1 (tb_3 _ (List.mem_of_getElem? (i := 144) rfl)) rfl
theorem wd_3_147 : (Jvm.Cond.methodLink "PathDecoderLaw" (140 : Nat) ({ cls := "PathDecoderLaw", name := "send", desc := "(LPathDecoder;IIII[J)I" } : Jvm.MethodName)) ∈ pd_B := pd_in1 (tb_3 _ (List.mem_of_getElem? (i := 147) rfl)) rfl
theorem wd_3_148 : (Jvm.Cond.static ({ cls := "PathDecoderLaw", name := "send", desc := "(LPathDecoder;IIII[J)I" } : Jvm.MethodName)) ∈ pd_B := pd_in1 (tb_3 _ (List.mem_of_getElem? (i := 148) rfl)) rfl
theorem wd_3_149 : (Jvm.Cond.codeWith ({ cls := "PathDecoderLaw", name := "send", desc := "(LPathDecoder;IIII[J)I" } : Jvm.MethodName) method_13_code (7 : Nat) (Option.some Jvm.ClassFile.FieldType.int) [((0 : Nat), (14 : Nat), (17 : Nat), (13 : Nat)), ((0 : Nat), (14 : Nat), (21 : Nat), (15 : Nat))]) ∈ pd_B := pd_in1 (tb_3 _ (List.mem_of_getElem? (i := 149) rfl)) rfl
theorem wd_3_150 : (Jvm.Cond.methodLink "PathDecoderLaw" (49 : Nat) ({ cls := "PathDecoder", name := "send", desc := "(IIII)I" } : Jvm.MethodName)) ∈ pd_B := pd_in1 (tb_3 _ (List.mem_of_getElem? (i := 150) rfl)) rfl
theorem wd_3_151 : (Jvm.Cond.instanceMethod ({ cls := "PathDecoder", name := "send", desc := "(IIII)I" } : Jvm.MethodName)) ∈ pd_B := pd_in1 (tb_3 _ (List.mem_of_getElem? (i := 151) rfl)) rfl
theorem wd_3_152 : (Jvm.Cond.selects "PathDecoder" ({ cls := "PathDecoder", name := "send", desc := "(IIII)I" } : Jvm.MethodName) ({ cls := "PathDecoder", name := "send", desc := "(IIII)I" } : Jvm.MethodName)) ∈ pd_B := pd_in1 (tb_3 _ (List.mem_of_getElem? (i := 152) rfl)) rfl
theorem wd_3_153 : (Jvm.Cond.code ({ cls := "PathDecoder", name := "send", desc := "(IIII)I" } : Jvm.MethodName) prog_1_method_12_code (9 : Nat) (Option.some Jvm.ClassFile.FieldType.int)) ∈ pd_B := pd_in1 (tb_3 _ (List.mem_of_getElem? (i := 153) rfl)) rfl
theorem wd_3_154 : (Jvm.Cond.methodLink "PathDecoder" (217 : Nat) ({ cls := "PathDecoder", name := "demandBitCount", desc := "(I)V" } : Jvm.MethodName)) ∈ pd_B := pd_in1 (tb_3 _ (List.mem_of_getElem? (i := 154) rfl)) rfl
theorem wd_3_155 : (Jvm.Cond.static ({ cls := "PathDecoder", name := "demandBitCount", desc := "(I)V" } : Jvm.MethodName)) ∈ pd_B := pd_in1 (tb_3 _ (List.mem_of_getElem? (i := 155) rfl)) rfl
theorem wd_3_156 : (Jvm.Cond.code ({ cls := "PathDecoder", name := "demandBitCount", desc := "(I)V" } : Jvm.MethodName) prog_1_method_35_code (1 : Nat) (Option.none : Option Jvm.ClassFile.FieldType)) ∈ pd_B := pd_in1 (tb_3 _ (List.mem_of_getElem? (i := 156) rfl)) rfl
theorem wd_3_158 : (Jvm.Cond.methodLink "PathDecoder" (220 : Nat) ({ cls := "PathDecoder$Message", name := "encode", desc := "(LPathDecoder$Code;LPathDecoder$Row;I)Z" } : Jvm.MethodName)) ∈ pd_B := pd_in1 (tb_3 _ (List.mem_of_getElem? (i := 158) rfl)) rfl
theorem wd_3_159 : (Jvm.Cond.instanceMethod ({ cls := "PathDecoder$Message", name := "encode", desc := "(LPathDecoder$Code;LPathDecoder$Row;I)Z" } : Jvm.MethodName)) ∈ pd_B := pd_in1 (tb_3 _ (List.mem_of_getElem? (i := 159) rfl)) rfl
theorem wd_3_160 : (Jvm.Cond.selects "PathDecoder$Message" ({ cls := "PathDecoder$Message", name := "encode", desc := "(LPathDecoder$Code;LPathDecoder$Row;I)Z" } : Jvm.MethodName) ({ cls := "PathDecoder$Message", name := "encode", desc := "(LPathDecoder$Code;LPathDecoder$Row;I)Z" } : Jvm.MethodName)) ∈ pd_B := pd_in1 (tb_3 _ (List.mem_of_getElem? (i := 160) rfl)) rfl
theorem wd_3_161 : (Jvm.Cond.code ({ cls := "PathDecoder$Message", name := "encode", desc := "(LPathDecoder$Code;LPathDecoder$Row;I)Z" } : Jvm.MethodName) prog_4_method_2_code (5 : Nat) (Option.some Jvm.ClassFile.FieldType.boolean)) ∈ pd_B := pd_in1 (tb_3 _ (List.mem_of_getElem? (i := 161) rfl)) rfl
theorem wd_3_162 : (Jvm.Cond.methodLink "PathDecoder$Message" (18 : Nat) ({ cls := "PathDecoder$Row", name := "bitAt", desc := "(I)I" } : Jvm.MethodName)) ∈ pd_B := pd_in1 (tb_3 _ (List.mem_of_getElem? (i := 162) rfl)) rfl
theorem wd_3_163 : (Jvm.Cond.instanceMethod ({ cls := "PathDecoder$Row", name := "bitAt", desc := "(I)I" } : Jvm.MethodName)) ∈ pd_B := pd_in1 (tb_3 _ (List.mem_of_getElem? (i := 163) rfl)) rfl
theorem wd_3_164 : (Jvm.Cond.selects "PathDecoder$Row" ({ cls := "PathDecoder$Row", name := "bitAt", desc := "(I)I" } : Jvm.MethodName) ({ cls := "PathDecoder$Row", name := "bitAt", desc := "(I)I" } : Jvm.MethodName)) ∈ pd_B := pd_in1 (tb_3 _ (List.mem_of_getElem? (i := 164) rfl)) rfl
theorem wd_3_165 : (Jvm.Cond.code ({ cls := "PathDecoder$Row", name := "bitAt", desc := "(I)I" } : Jvm.MethodName) prog_6_method_8_code (2 : Nat) (Option.some Jvm.ClassFile.FieldType.int)) ∈ pd_B := pd_in1 (tb_3 _ (List.mem_of_getElem? (i := 165) rfl)) rfl
theorem wd_3_166 : (Jvm.Cond.methodLink "PathDecoder$Row" (27 : Nat) ({ cls := "PathDecoder$Row", name := "numberAt", desc := "(I)I" } : Jvm.MethodName)) ∈ pd_B := pd_in1 (tb_3 _ (List.mem_of_getElem? (i := 166) rfl)) rfl
theorem wd_3_167 : (Jvm.Cond.methodLink "PathDecoder$Message" (30 : Nat) ({ cls := "PathDecoder$Message", name := "ringBeginning", desc := "(LPathDecoder$Code;I)I" } : Jvm.MethodName)) ∈ pd_B := pd_in1 (tb_3 _ (List.mem_of_getElem? (i := 167) rfl)) rfl
theorem wd_3_169 : (Jvm.Cond.instanceMethod ({ cls := "PathDecoder$Message", name := "ringBeginning", desc := "(LPathDecoder$Code;I)I" } : Jvm.MethodName)) ∈ pd_B := pd_in1 (tb_3 _ (List.mem_of_getElem? (i := 169) rfl)) rfl
theorem wd_3_170 : (Jvm.Cond.code ({ cls := "PathDecoder$Message", name := "ringBeginning", desc := "(LPathDecoder$Code;I)I" } : Jvm.MethodName) prog_4_method_3_code (6 : Nat) (Option.some Jvm.ClassFile.FieldType.int)) ∈ pd_B := pd_in1 (tb_3 _ (List.mem_of_getElem? (i := 170) rfl)) rfl
theorem wd_3_171 : (Jvm.Cond.methodLink "PathDecoder$Message" (46 : Nat) ({ cls := "PathDecoder$Code", name := "states", desc := "()I" } : Jvm.MethodName)) ∈ pd_B := pd_in1 (tb_3 _ (List.mem_of_getElem? (i := 171) rfl)) rfl
theorem wd_3_172 : (Jvm.Cond.instanceMethod ({ cls := "PathDecoder$Code", name := "states", desc := "()I" } : Jvm.MethodName)) ∈ pd_B := pd_in1 (tb_3 _ (List.mem_of_getElem? (i := 172) rfl)) rfl
theorem wd_3_173 : (Jvm.Cond.selects "PathDecoder$Code" ({ cls := "PathDecoder$Code", name := "states", desc := "()I" } : Jvm.MethodName) ({ cls := "PathDecoder$Code", name := "states", desc := "()I" } : Jvm.MethodName)) ∈ pd_B := pd_in1 (tb_3 _ (List.mem_of_getElem? (i := 173) rfl)) rfl
theorem wd_3_174 : (Jvm.Cond.code ({ cls := "PathDecoder$Code", name := "states", desc := "()I" } : Jvm.MethodName) prog_2_method_4_code (1 : Nat) (Option.some Jvm.ClassFile.FieldType.int)) ∈ pd_B := pd_in1 (tb_3 _ (List.mem_of_getElem? (i := 174) rfl)) rfl
theorem wd_3_175 : (Jvm.Cond.methodLink "PathDecoder$Message" (50 : Nat) ({ cls := "PathDecoder$Code", name := "stateAfter", desc := "(II)I" } : Jvm.MethodName)) ∈ pd_B := pd_in1 (tb_3 _ (List.mem_of_getElem? (i := 175) rfl)) rfl
theorem wd_3_176 : (Jvm.Cond.instanceMethod ({ cls := "PathDecoder$Code", name := "stateAfter", desc := "(II)I" } : Jvm.MethodName)) ∈ pd_B := pd_in1 (tb_3 _ (List.mem_of_getElem? (i := 176) rfl)) rfl
theorem wd_3_177 : (Jvm.Cond.selects "PathDecoder$Code" ({ cls := "PathDecoder$Code", name := "stateAfter", desc := "(II)I" } : Jvm.MethodName) ({ cls := "PathDecoder$Code", name := "stateAfter", desc := "(II)I" } : Jvm.MethodName)) ∈ pd_B := pd_in1 (tb_3 _ (List.mem_of_getElem? (i := 177) rfl)) rfl
theorem wd_3_178 : (Jvm.Cond.code ({ cls := "PathDecoder$Code", name := "stateAfter", desc := "(II)I" } : Jvm.MethodName) prog_2_method_14_code (3 : Nat) (Option.some Jvm.ClassFile.FieldType.int)) ∈ pd_B := pd_in1 (tb_3 _ (List.mem_of_getElem? (i := 178) rfl)) rfl
theorem wd_3_179 : (Jvm.Cond.methodLink "PathDecoder$Code" (65 : Nat) ({ cls := "PathDecoder$Code", name := "fedBack", desc := "(I)I" } : Jvm.MethodName)) ∈ pd_B := pd_in1 (tb_3 _ (List.mem_of_getElem? (i := 179) rfl)) rfl
theorem wd_3_180 : (Jvm.Cond.instanceMethod ({ cls := "PathDecoder$Code", name := "fedBack", desc := "(I)I" } : Jvm.MethodName)) ∈ pd_B := pd_in1 (tb_3 _ (List.mem_of_getElem? (i := 180) rfl)) rfl
theorem wd_3_181 : (Jvm.Cond.selects "PathDecoder$Code" ({ cls := "PathDecoder$Code", name := "fedBack", desc := "(I)I" } : Jvm.MethodName) ({ cls := "PathDecoder$Code", name := "fedBack", desc := "(I)I" } : Jvm.MethodName)) ∈ pd_B := pd_in1 (tb_3 _ (List.mem_of_getElem? (i := 181) rfl)) rfl
theorem wd_3_182 : (Jvm.Cond.code ({ cls := "PathDecoder$Code", name := "fedBack", desc := "(I)I" } : Jvm.MethodName) prog_2_method_13_code (2 : Nat) (Option.some Jvm.ClassFile.FieldType.int)) ∈ pd_B := pd_in1 (tb_3 _ (List.mem_of_getElem? (i := 182) rfl)) rfl
theorem wd_3_184 : (Jvm.Cond.static ({ cls := "PathDecoder", name := "parity", desc := "(I)I" } : Jvm.MethodName)) ∈ pd_B := pd_in1 (tb_3 _ (List.mem_of_getElem? (i := 184) rfl)) rfl
theorem wd_3_185 : (Jvm.Cond.code ({ cls := "PathDecoder", name := "parity", desc := "(I)I" } : Jvm.MethodName) prog_1_method_39_code (1 : Nat) (Option.some Jvm.ClassFile.FieldType.int)) ∈ pd_B := pd_in1 (tb_3 _ (List.mem_of_getElem? (i := 185) rfl)) rfl
theorem wd_3_186 : (Jvm.Cond.methodLink "PathDecoder" (396 : Nat) ({ cls := "java/lang/Integer", name := "bitCount", desc := "(I)I" } : Jvm.MethodName)) ∈ pd_B := pd_in1 (tb_3 _ (List.mem_of_getElem? (i := 186) rfl)) rfl
theorem wd_3_187 : (Jvm.Cond.static ({ cls := "java/lang/Integer", name := "bitCount", desc := "(I)I" } : Jvm.MethodName)) ∈ pd_B := pd_in1 (tb_3 _ (List.mem_of_getElem? (i := 187) rfl)) rfl
theorem wd_3_188 : (Jvm.Cond.code ({ cls := "java/lang/Integer", name := "bitCount", desc := "(I)I" } : Jvm.MethodName) prog_19_method_49_code (1 : Nat) (Option.some Jvm.ClassFile.FieldType.int)) ∈ pd_B := pd_in1 (tb_3 _ (List.mem_of_getElem? (i := 188) rfl)) rfl
theorem wd_3_189 : (Jvm.Cond.constant "java/lang/Integer" (265 : Nat) (1431655765 : Int32)) ∈ pd_B := pd_in1 (tb_3 _ (List.mem_of_getElem? (i := 189) rfl)) rfl
theorem wd_3_190 : (Jvm.Cond.constant "java/lang/Integer" (266 : Nat) (858993459 : Int32)) ∈ pd_B := pd_in1 (tb_3 _ (List.mem_of_getElem? (i := 190) rfl)) rfl
theorem wd_3_191 : (Jvm.Cond.constant "java/lang/Integer" (267 : Nat) (252645135 : Int32)) ∈ pd_B := pd_in1 (tb_3 _ (List.mem_of_getElem? (i := 191) rfl)) rfl
theorem wd_3_192 : (Jvm.Cond.methodLink "PathDecoder$Code" (37 : Nat) ({ cls := "PathDecoder$Code", name := "states", desc := "()I" } : Jvm.MethodName)) ∈ pd_B := pd_in1 (tb_3 _ (List.mem_of_getElem? (i := 192) rfl)) rfl
theorem wd_3_193 : (Jvm.Cond.methodLink "PathDecoder$Message" (34 : Nat) ({ cls := "PathDecoder$Code", name := "ordersAll", desc := "(I)Z" } : Jvm.MethodName)) ∈ pd_B := pd_in1 (tb_3 _ (List.mem_of_getElem? (i := 193) rfl)) rfl
theorem wd_3_194 : (Jvm.Cond.instanceMethod ({ cls := "PathDecoder$Code", name := "ordersAll", desc := "(I)Z" } : Jvm.MethodName)) ∈ pd_B := pd_in1 (tb_3 _ (List.mem_of_getElem? (i := 194) rfl)) rfl
theorem wd_3_195 : (Jvm.Cond.selects "PathDecoder$Code" ({ cls := "PathDecoder$Code", name := "ordersAll", desc := "(I)Z" } : Jvm.MethodName) ({ cls := "PathDecoder$Code", name := "ordersAll", desc := "(I)Z" } : Jvm.MethodName)) ∈ pd_B := pd_in1 (tb_3 _ (List.mem_of_getElem? (i := 195) rfl)) rfl
theorem wd_3_196 : (Jvm.Cond.code ({ cls := "PathDecoder$Code", name := "ordersAll", desc := "(I)Z" } : Jvm.MethodName) prog_2_method_12_code (3 : Nat) (Option.some Jvm.ClassFile.FieldType.boolean)) ∈ pd_B := pd_in1 (tb_3 _ (List.mem_of_getElem? (i := 196) rfl)) rfl
theorem wd_3_197 : (Jvm.Cond.methodLink "PathDecoder$Message" (38 : Nat) ({ cls := "PathDecoder$Message", name := "encodeFirst", desc := "(LPathDecoder$Code;II)V" } : Jvm.MethodName)) ∈ pd_B := pd_in1 (tb_3 _ (List.mem_of_getElem? (i := 197) rfl)) rfl
theorem wd_3_199 : (Jvm.Cond.instanceMethod ({ cls := "PathDecoder$Message", name := "encodeFirst", desc := "(LPathDecoder$Code;II)V" } : Jvm.MethodName)) ∈ pd_B := pd_in1 (tb_3 _ (List.mem_of_getElem? (i := 199) rfl)) rfl
theorem wd_3_200 : (Jvm.Cond.code ({ cls := "PathDecoder$Message", name := "encodeFirst", desc := "(LPathDecoder$Code;II)V" } : Jvm.MethodName) prog_4_method_4_code (9 : Nat) (Option.none : Option Jvm.ClassFile.FieldType)) ∈ pd_B := pd_in1 (tb_3 _ (List.mem_of_getElem? (i := 200) rfl)) rfl
theorem wd_3_201 : (Jvm.Cond.methodLink "PathDecoder$Message" (54 : Nat) ({ cls := "PathDecoder$Code", name := "steps", desc := "(I)I" } : Jvm.MethodName)) ∈ pd_B := pd_in1 (tb_3 _ (List.mem_of_getElem? (i := 201) rfl)) rfl
theorem wd_3_202 : (Jvm.Cond.instanceMethod ({ cls := "PathDecoder$Code", name := "steps", desc := "(I)I" } : Jvm.MethodName)) ∈ pd_B := pd_in1 (tb_3 _ (List.mem_of_getElem? (i := 202) rfl)) rfl
theorem wd_3_203 : (Jvm.Cond.selects "PathDecoder$Code" ({ cls := "PathDecoder$Code", name := "steps", desc := "(I)I" } : Jvm.MethodName) ({ cls := "PathDecoder$Code", name := "steps", desc := "(I)I" } : Jvm.MethodName)) ∈ pd_B := pd_in1 (tb_3 _ (List.mem_of_getElem? (i := 203) rfl)) rfl
theorem wd_3_204 : (Jvm.Cond.code ({ cls := "PathDecoder$Code", name := "steps", desc := "(I)I" } : Jvm.MethodName) prog_2_method_6_code (2 : Nat) (Option.some Jvm.ClassFile.FieldType.int)) ∈ pd_B := pd_in1 (tb_3 _ (List.mem_of_getElem? (i := 204) rfl)) rfl
theorem wd_3_205 : (Jvm.Cond.methodLink "PathDecoder$Message" (57 : Nat) ({ cls := "PathDecoder$Code", name := "fedBack", desc := "(I)I" } : Jvm.MethodName)) ∈ pd_B := pd_in1 (tb_3 _ (List.mem_of_getElem? (i := 205) rfl)) rfl
theorem wd_3_206 : (Jvm.Cond.methodLink "PathDecoder$Message" (60 : Nat) ({ cls := "PathDecoder$Code", name := "outsOf", desc := "(II)I" } : Jvm.MethodName)) ∈ pd_B := pd_in1 (tb_3 _ (List.mem_of_getElem? (i := 206) rfl)) rfl
theorem wd_3_207 : (Jvm.Cond.instanceMethod ({ cls := "PathDecoder$Code", name := "outsOf", desc := "(II)I" } : Jvm.MethodName)) ∈ pd_B := pd_in1 (tb_3 _ (List.mem_of_getElem? (i := 207) rfl)) rfl
theorem wd_3_208 : (Jvm.Cond.selects "PathDecoder$Code" ({ cls := "PathDecoder$Code", name := "outsOf", desc := "(II)I" } : Jvm.MethodName) ({ cls := "PathDecoder$Code", name := "outsOf", desc := "(II)I" } : Jvm.MethodName)) ∈ pd_B := pd_in1 (tb_3 _ (List.mem_of_getElem? (i := 208) rfl)) rfl
theorem wd_3_209 : (Jvm.Cond.code ({ cls := "PathDecoder$Code", name := "outsOf", desc := "(II)I" } : Jvm.MethodName) prog_2_method_15_code (6 : Nat) (Option.some Jvm.ClassFile.FieldType.int)) ∈ pd_B := pd_in1 (tb_3 _ (List.mem_of_getElem? (i := 209) rfl)) rfl
theorem wd_3_210 : (Jvm.Cond.methodLink "PathDecoder$Code" (68 : Nat) ({ cls := "PathDecoder$Code", name := "isFed", desc := "()Z" } : Jvm.MethodName)) ∈ pd_B := pd_in1 (tb_3 _ (List.mem_of_getElem? (i := 210) rfl)) rfl
theorem wd_3_211 : (Jvm.Cond.methodLink "PathDecoder$Message" (42 : Nat) ({ cls := "PathDecoder$Message", name := "encodeSecond", desc := "(LPathDecoder$Code;I)V" } : Jvm.MethodName)) ∈ pd_B := pd_in1 (tb_3 _ (List.mem_of_getElem? (i := 211) rfl)) rfl
theorem wd_3_213 : (Jvm.Cond.instanceMethod ({ cls := "PathDecoder$Message", name := "encodeSecond", desc := "(LPathDecoder$Code;I)V" } : Jvm.MethodName)) ∈ pd_B := pd_in1 (tb_3 _ (List.mem_of_getElem? (i := 213) rfl)) rfl
theorem wd_3_214 : (Jvm.Cond.code ({ cls := "PathDecoder$Message", name := "encodeSecond", desc := "(LPathDecoder$Code;I)V" } : Jvm.MethodName) prog_4_method_5_code (8 : Nat) (Option.none : Option Jvm.ClassFile.FieldType)) ∈ pd_B := pd_in1 (tb_3 _ (List.mem_of_getElem? (i := 214) rfl)) rfl
theorem wd_3_215 : (Jvm.Cond.methodLink "PathDecoder$Message" (66 : Nat) ({ cls := "PathDecoder$Code", name := "orderOf", desc := "(II)I" } : Jvm.MethodName)) ∈ pd_B := pd_in1 (tb_3 _ (List.mem_of_getElem? (i := 215) rfl)) rfl
theorem wd_3_216 : (Jvm.Cond.instanceMethod ({ cls := "PathDecoder$Code", name := "orderOf", desc := "(II)I" } : Jvm.MethodName)) ∈ pd_B := pd_in1 (tb_3 _ (List.mem_of_getElem? (i := 216) rfl)) rfl
theorem wd_3_217 : (Jvm.Cond.selects "PathDecoder$Code" ({ cls := "PathDecoder$Code", name := "orderOf", desc := "(II)I" } : Jvm.MethodName) ({ cls := "PathDecoder$Code", name := "orderOf", desc := "(II)I" } : Jvm.MethodName)) ∈ pd_B := pd_in1 (tb_3 _ (List.mem_of_getElem? (i := 217) rfl)) rfl
theorem wd_3_218 : (Jvm.Cond.code ({ cls := "PathDecoder$Code", name := "orderOf", desc := "(II)I" } : Jvm.MethodName) prog_2_method_11_code (3 : Nat) (Option.some Jvm.ClassFile.FieldType.int)) ∈ pd_B := pd_in1 (tb_3 _ (List.mem_of_getElem? (i := 218) rfl)) rfl
theorem wd_3_219 : (Jvm.Cond.methodLink "PathDecoder" (224 : Nat) ({ cls := "PathDecoder$Code", name := "sentBy", desc := "(I)I" } : Jvm.MethodName)) ∈ pd_B := pd_in1 (tb_3 _ (List.mem_of_getElem? (i := 219) rfl)) rfl
theorem wd_3_220 : (Jvm.Cond.instanceMethod ({ cls := "PathDecoder$Code", name := "sentBy", desc := "(I)I" } : Jvm.MethodName)) ∈ pd_B := pd_in1 (tb_3 _ (List.mem_of_getElem? (i := 220) rfl)) rfl
theorem wd_3_221 : (Jvm.Cond.selects "PathDecoder$Code" ({ cls := "PathDecoder$Code", name := "sentBy", desc := "(I)I" } : Jvm.MethodName) ({ cls := "PathDecoder$Code", name := "sentBy", desc := "(I)I" } : Jvm.MethodName)) ∈ pd_B := pd_in1 (tb_3 _ (List.mem_of_getElem? (i := 221) rfl)) rfl
theorem wd_3_222 : (Jvm.Cond.code ({ cls := "PathDecoder$Code", name := "sentBy", desc := "(I)I" } : Jvm.MethodName) prog_2_method_10_code (5 : Nat) (Option.some Jvm.ClassFile.FieldType.int)) ∈ pd_B := pd_in1 (tb_3 _ (List.mem_of_getElem? (i := 222) rfl)) rfl
theorem wd_3_223 : (Jvm.Cond.methodLink "PathDecoder$Code" (51 : Nat) ({ cls := "PathDecoder$Code", name := "steps", desc := "(I)I" } : Jvm.MethodName)) ∈ pd_B := pd_in1 (tb_3 _ (List.mem_of_getElem? (i := 223) rfl)) rfl
theorem wd_3_224 : (Jvm.Cond.methodLink "PathDecoder$Code" (55 : Nat) ({ cls := "PathDecoder$Code", name := "width", desc := "()I" } : Jvm.MethodName)) ∈ pd_B := pd_in1 (tb_3 _ (List.mem_of_getElem? (i := 224) rfl)) rfl
theorem wd_3_225 : (Jvm.Cond.methodLink "PathDecoder$Code" (58 : Nat) ({ cls := "PathDecoder$Code", name := "isSent", desc := "(II)Z" } : Jvm.MethodName)) ∈ pd_B := pd_in1 (tb_3 _ (List.mem_of_getElem? (i := 225) rfl)) rfl
theorem wd_3_226 : (Jvm.Cond.instanceMethod ({ cls := "PathDecoder$Code", name := "isSent", desc := "(II)Z" } : Jvm.MethodName)) ∈ pd_B := pd_in1 (tb_3 _ (List.mem_of_getElem? (i := 226) rfl)) rfl
theorem wd_3_227 : (Jvm.Cond.selects "PathDecoder$Code" ({ cls := "PathDecoder$Code", name := "isSent", desc := "(II)Z" } : Jvm.MethodName) ({ cls := "PathDecoder$Code", name := "isSent", desc := "(II)Z" } : Jvm.MethodName)) ∈ pd_B := pd_in1 (tb_3 _ (List.mem_of_getElem? (i := 227) rfl)) rfl
theorem wd_3_228 : (Jvm.Cond.code ({ cls := "PathDecoder$Code", name := "isSent", desc := "(II)Z" } : Jvm.MethodName) prog_2_method_9_code (3 : Nat) (Option.some Jvm.ClassFile.FieldType.boolean)) ∈ pd_B := pd_in1 (tb_3 _ (List.mem_of_getElem? (i := 228) rfl)) rfl
theorem wd_3_229 : (Jvm.Cond.methodLink "PathDecoder$Code" (47 : Nat) ({ cls := "PathDecoder$Code", name := "isCut", desc := "()Z" } : Jvm.MethodName)) ∈ pd_B := pd_in1 (tb_3 _ (List.mem_of_getElem? (i := 229) rfl)) rfl
theorem wd_3_230 : (Jvm.Cond.methodLink "PathDecoder" (227 : Nat) ({ cls := "PathDecoder$Message", name := "write", desc := "(LPathDecoder$Code;ILPathDecoder$Row;)V" } : Jvm.MethodName)) ∈ pd_B := pd_in1 (tb_3 _ (List.mem_of_getElem? (i := 230) rfl)) rfl
theorem wd_3_231 : (Jvm.Cond.instanceMethod ({ cls := "PathDecoder$Message", name := "write", desc := "(LPathDecoder$Code;ILPathDecoder$Row;)V" } : Jvm.MethodName)) ∈ pd_B := pd_in1 (tb_3 _ (List.mem_of_getElem? (i := 231) rfl)) rfl
theorem wd_3_232 : (Jvm.Cond.selects "PathDecoder$Message" ({ cls := "PathDecoder$Message", name := "write", desc := "(LPathDecoder$Code;ILPathDecoder$Row;)V" } : Jvm.MethodName) ({ cls := "PathDecoder$Message", name := "write", desc := "(LPathDecoder$Code;ILPathDecoder$Row;)V" } : Jvm.MethodName)) ∈ pd_B := pd_in1 (tb_3 _ (List.mem_of_getElem? (i := 232) rfl)) rfl
theorem wd_3_233 : (Jvm.Cond.code ({ cls := "PathDecoder$Message", name := "write", desc := "(LPathDecoder$Code;ILPathDecoder$Row;)V" } : Jvm.MethodName) prog_4_method_6_code (7 : Nat) (Option.none : Option Jvm.ClassFile.FieldType)) ∈ pd_B := pd_in1 (tb_3 _ (List.mem_of_getElem? (i := 233) rfl)) rfl
theorem wd_3_234 : (Jvm.Cond.methodLink "PathDecoder$Message" (69 : Nat) ({ cls := "PathDecoder$Code", name := "width", desc := "()I" } : Jvm.MethodName)) ∈ pd_B := pd_in1 (tb_3 _ (List.mem_of_getElem? (i := 234) rfl)) rfl
theorem wd_3_235 : (Jvm.Cond.methodLink "PathDecoder$Message" (72 : Nat) ({ cls := "PathDecoder$Code", name := "isSent", desc := "(II)Z" } : Jvm.MethodName)) ∈ pd_B := pd_in1 (tb_3 _ (List.mem_of_getElem? (i := 235) rfl)) rfl
theorem wd_3_236 : (Jvm.Cond.methodLink "PathDecoder$Message" (76 : Nat) ({ cls := "PathDecoder$Row", name := "change", desc := "(II)V" } : Jvm.MethodName)) ∈ pd_B := pd_in1 (tb_3 _ (List.mem_of_getElem? (i := 236) rfl)) rfl
theorem wd_3_237 : (Jvm.Cond.methodLink "PathDecoderLaw" (143 : Nat) ({ cls := "PathDecoderLaw", name := "length", desc := "(LPathDecoder;II[J)I" } : Jvm.MethodName)) ∈ pd_B := pd_in1 (tb_3 _ (List.mem_of_getElem? (i := 237) rfl)) rfl
theorem wd_3_238 : (Jvm.Cond.static ({ cls := "PathDecoderLaw", name := "length", desc := "(LPathDecoder;II[J)I" } : Jvm.MethodName)) ∈ pd_B := pd_in1 (tb_3 _ (List.mem_of_getElem? (i := 238) rfl)) rfl
theorem wd_3_239 : (Jvm.Cond.codeWith ({ cls := "PathDecoderLaw", name := "length", desc := "(LPathDecoder;II[J)I" } : Jvm.MethodName) method_14_code (5 : Nat) (Option.some Jvm.ClassFile.FieldType.int) [((0 : Nat), (10 : Nat), (13 : Nat), (13 : Nat)), ((0 : Nat), (10 : Nat), (17 : Nat), (15 : Nat))]) ∈ pd_B := pd_in1 (tb_3 _ (List.mem_of_getElem? (i := 239) rfl)) rfl
theorem wd_4_0 : (Jvm.Cond.methodLink "PathDecoderLaw" (52 : Nat) ({ cls := "PathDecoder", name := "length", desc := "(II)I" } : Jvm.MethodName)) ∈ pd_B := pd_in1 (tb_4 _ (List.mem_of_getElem? (i := 0) rfl)) rfl
theorem wd_4_1 : (Jvm.Cond.instanceMethod ({ cls := "PathDecoder", name := "length", desc := "(II)I" } : Jvm.MethodName)) ∈ pd_B := pd_in1 (tb_4 _ (List.mem_of_getElem? (i := 1) rfl)) rfl
theorem wd_4_2 : (Jvm.Cond.selects "PathDecoder" ({ cls := "PathDecoder", name := "length", desc := "(II)I" } : Jvm.MethodName) ({ cls := "PathDecoder", name := "length", desc := "(II)I" } : Jvm.MethodName)) ∈ pd_B := pd_in1 (tb_4 _ (List.mem_of_getElem? (i := 2) rfl)) rfl
theorem wd_4_3 : (Jvm.Cond.code ({ cls := "PathDecoder", name := "length", desc := "(II)I" } : Jvm.MethodName) prog_1_method_13_code (4 : Nat) (Option.some Jvm.ClassFile.FieldType.int)) ∈ pd_B := pd_in1 (tb_4 _ (List.mem_of_getElem? (i := 3) rfl)) rfl
theorem wd_4_4 : (Jvm.Cond.methodLink "PathDecoderLaw" (146 : Nat) ({ cls := "PathDecoderLaw", name := "cost", desc := "(LPathDecoder;IIII[J)I" } : Jvm.MethodName)) ∈ pd_B := pd_in1 (tb_4 _ (List.mem_of_getElem? (i := 4) rfl)) rfl
theorem wd_4_5 : (Jvm.Cond.static ({ cls := "PathDecoderLaw", name := "cost", desc := "(LPathDecoder;IIII[J)I" } : Jvm.MethodName)) ∈ pd_B := pd_in1 (tb_4 _ (List.mem_of_getElem? (i := 5) rfl)) rfl
theorem wd_4_6 : (Jvm.Cond.codeWith ({ cls := "PathDecoderLaw", name := "cost", desc := "(LPathDecoder;IIII[J)I" } : Jvm.MethodName) method_15_code (7 : Nat) (Option.some Jvm.ClassFile.FieldType.int) [((0 : Nat), (14 : Nat), (17 : Nat), (13 : Nat)), ((0 : Nat), (14 : Nat), (21 : Nat), (15 : Nat))]) ∈ pd_B := pd_in1 (tb_4 _ (List.mem_of_getElem? (i := 6) rfl)) rfl
theorem wd_4_7 : (Jvm.Cond.methodLink "PathDecoderLaw" (55 : Nat) ({ cls := "PathDecoder", name := "cost", desc := "(IIII)I" } : Jvm.MethodName)) ∈ pd_B := pd_in1 (tb_4 _ (List.mem_of_getElem? (i := 7) rfl)) rfl
theorem wd_4_8 : (Jvm.Cond.instanceMethod ({ cls := "PathDecoder", name := "cost", desc := "(IIII)I" } : Jvm.MethodName)) ∈ pd_B := pd_in1 (tb_4 _ (List.mem_of_getElem? (i := 8) rfl)) rfl
theorem wd_4_9 : (Jvm.Cond.selects "PathDecoder" ({ cls := "PathDecoder", name := "cost", desc := "(IIII)I" } : Jvm.MethodName) ({ cls := "PathDecoder", name := "cost", desc := "(IIII)I" } : Jvm.MethodName)) ∈ pd_B := pd_in1 (tb_4 _ (List.mem_of_getElem? (i := 9) rfl)) rfl
theorem wd_4_10 : (Jvm.Cond.code ({ cls := "PathDecoder", name := "cost", desc := "(IIII)I" } : Jvm.MethodName) prog_1_method_14_code (8 : Nat) (Option.some Jvm.ClassFile.FieldType.int)) ∈ pd_B := pd_in1 (tb_4 _ (List.mem_of_getElem? (i := 10) rfl)) rfl
theorem wd_4_11 : (Jvm.Cond.methodLink "PathDecoder" (231 : Nat) ({ cls := "PathDecoder$Received", name := "read", desc := "(LPathDecoder$Code;ILPathDecoder$Row;)V" } : Jvm.MethodName)) ∈ pd_B := pd_in1 (tb_4 _ (List.mem_of_getElem? (i := 11) rfl)) rfl
theorem wd_4_12 : (Jvm.Cond.instanceMethod ({ cls := "PathDecoder$Received", name := "read", desc := "(LPathDecoder$Code;ILPathDecoder$Row;)V" } : Jvm.MethodName)) ∈ pd_B := pd_in1 (tb_4 _ (List.mem_of_getElem? (i := 12) rfl)) rfl
theorem wd_4_13 : (Jvm.Cond.selects "PathDecoder$Received" ({ cls := "PathDecoder$Received", name := "read", desc := "(LPathDecoder$Code;ILPathDecoder$Row;)V" } : Jvm.MethodName) ({ cls := "PathDecoder$Received", name := "read", desc := "(LPathDecoder$Code;ILPathDecoder$Row;)V" } : Jvm.MethodName)) ∈ pd_B := pd_in1 (tb_4 _ (List.mem_of_getElem? (i := 13) rfl)) rfl
theorem wd_4_14 : (Jvm.Cond.code ({ cls := "PathDecoder$Received", name := "read", desc := "(LPathDecoder$Code;ILPathDecoder$Row;)V" } : Jvm.MethodName) prog_5_method_3_code (11 : Nat) (Option.none : Option Jvm.ClassFile.FieldType)) ∈ pd_B := pd_in1 (tb_4 _ (List.mem_of_getElem? (i := 14) rfl)) rfl
theorem wd_4_15 : (Jvm.Cond.methodLink "PathDecoder$Received" (24 : Nat) ({ cls := "PathDecoder$Code", name := "steps", desc := "(I)I" } : Jvm.MethodName)) ∈ pd_B := pd_in1 (tb_4 _ (List.mem_of_getElem? (i := 15) rfl)) rfl
theorem wd_4_16 : (Jvm.Cond.methodLink "PathDecoder$Received" (30 : Nat) ({ cls := "PathDecoder$Code", name := "width", desc := "()I" } : Jvm.MethodName)) ∈ pd_B := pd_in1 (tb_4 _ (List.mem_of_getElem? (i := 16) rfl)) rfl
theorem wd_4_17 : (Jvm.Cond.methodLink "PathDecoder$Received" (34 : Nat) ({ cls := "PathDecoder$Code", name := "isSent", desc := "(II)Z" } : Jvm.MethodName)) ∈ pd_B := pd_in1 (tb_4 _ (List.mem_of_getElem? (i := 17) rfl)) rfl
theorem wd_4_18 : (Jvm.Cond.methodLink "PathDecoder$Received" (38 : Nat) ({ cls := "PathDecoder$Row", name := "has", desc := "(I)Z" } : Jvm.MethodName)) ∈ pd_B := pd_in1 (tb_4 _ (List.mem_of_getElem? (i := 18) rfl)) rfl
theorem wd_4_19 : (Jvm.Cond.methodLink "PathDecoder$Received" (44 : Nat) ({ cls := "PathDecoder$Row", name := "numberAt", desc := "(I)I" } : Jvm.MethodName)) ∈ pd_B := pd_in1 (tb_4 _ (List.mem_of_getElem? (i := 19) rfl)) rfl
theorem wd_4_20 : (Jvm.Cond.methodLink "PathDecoder" (234 : Nat) ({ cls := "PathDecoder$Received", name := "costOf", desc := "(LPathDecoder$Message;LPathDecoder$Code;I)I" } : Jvm.MethodName)) ∈ pd_B := pd_in1 (tb_4 _ (List.mem_of_getElem? (i := 20) rfl)) rfl
theorem wd_4_21 : (Jvm.Cond.instanceMethod ({ cls := "PathDecoder$Received", name := "costOf", desc := "(LPathDecoder$Message;LPathDecoder$Code;I)I" } : Jvm.MethodName)) ∈ pd_B := pd_in1 (tb_4 _ (List.mem_of_getElem? (i := 21) rfl)) rfl
theorem wd_4_22 : (Jvm.Cond.selects "PathDecoder$Received" ({ cls := "PathDecoder$Received", name := "costOf", desc := "(LPathDecoder$Message;LPathDecoder$Code;I)I" } : Jvm.MethodName) ({ cls := "PathDecoder$Received", name := "costOf", desc := "(LPathDecoder$Message;LPathDecoder$Code;I)I" } : Jvm.MethodName)) ∈ pd_B := pd_in1 (tb_4 _ (List.mem_of_getElem? (i := 22) rfl)) rfl
theorem wd_4_23 : (Jvm.Cond.code ({ cls := "PathDecoder$Received", name := "costOf", desc := "(LPathDecoder$Message;LPathDecoder$Code;I)I" } : Jvm.MethodName) prog_5_method_4_code (8 : Nat) (Option.some Jvm.ClassFile.FieldType.int)) ∈ pd_B := pd_in1 (tb_4 _ (List.mem_of_getElem? (i := 23) rfl)) rfl
theorem wd_4_24 : (Jvm.Cond.methodLink "PathDecoderLaw" (149 : Nat) ({ cls := "PathDecoderLaw", name := "best", desc := "(LPathDecoder;III[J)I" } : Jvm.MethodName)) ∈ pd_B := pd_in1 (tb_4 _ (List.mem_of_getElem? (i := 24) rfl)) rfl
theorem wd_4_25 : (Jvm.Cond.static ({ cls := "PathDecoderLaw", name := "best", desc := "(LPathDecoder;III[J)I" } : Jvm.MethodName)) ∈ pd_B := pd_in1 (tb_4 _ (List.mem_of_getElem? (i := 25) rfl)) rfl
theorem wd_4_26 : (Jvm.Cond.codeWith ({ cls := "PathDecoderLaw", name := "best", desc := "(LPathDecoder;III[J)I" } : Jvm.MethodName) method_16_code (6 : Nat) (Option.some Jvm.ClassFile.FieldType.int) [((0 : Nat), (12 : Nat), (15 : Nat), (13 : Nat)), ((0 : Nat), (12 : Nat), (19 : Nat), (21 : Nat)), ((0 : Nat), (12 : Nat), (23 : Nat), (15 : Nat))]) ∈ pd_B := pd_in1 (tb_4 _ (List.mem_of_getElem? (i := 26) rfl)) rfl
theorem wd_4_27 : (Jvm.Cond.methodLink "PathDecoderLaw" (58 : Nat) ({ cls := "PathDecoder", name := "best", desc := "(III)I" } : Jvm.MethodName)) ∈ pd_B := pd_in1 (tb_4 _ (List.mem_of_getElem? (i := 27) rfl)) rfl
theorem wd_4_28 : (Jvm.Cond.instanceMethod ({ cls := "PathDecoder", name := "best", desc := "(III)I" } : Jvm.MethodName)) ∈ pd_B := pd_in1 (tb_4 _ (List.mem_of_getElem? (i := 28) rfl)) rfl
theorem wd_4_29 : (Jvm.Cond.selects "PathDecoder" ({ cls := "PathDecoder", name := "best", desc := "(III)I" } : Jvm.MethodName) ({ cls := "PathDecoder", name := "best", desc := "(III)I" } : Jvm.MethodName)) ∈ pd_B := pd_in1 (tb_4 _ (List.mem_of_getElem? (i := 29) rfl)) rfl
theorem wd_4_30 : (Jvm.Cond.code ({ cls := "PathDecoder", name := "best", desc := "(III)I" } : Jvm.MethodName) prog_1_method_15_code (6 : Nat) (Option.some Jvm.ClassFile.FieldType.int)) ∈ pd_B := pd_in1 (tb_4 _ (List.mem_of_getElem? (i := 30) rfl)) rfl
theorem wd_4_31 : (Jvm.Cond.methodLink "PathDecoder" (238 : Nat) ({ cls := "PathDecoder", name := "demandOneWay", desc := "(LPathDecoder$Code;)V" } : Jvm.MethodName)) ∈ pd_B := pd_in1 (tb_4 _ (List.mem_of_getElem? (i := 31) rfl)) rfl
theorem wd_4_32 : (Jvm.Cond.static ({ cls := "PathDecoder", name := "demandOneWay", desc := "(LPathDecoder$Code;)V" } : Jvm.MethodName)) ∈ pd_B := pd_in1 (tb_4 _ (List.mem_of_getElem? (i := 32) rfl)) rfl
theorem wd_4_33 : (Jvm.Cond.code ({ cls := "PathDecoder", name := "demandOneWay", desc := "(LPathDecoder$Code;)V" } : Jvm.MethodName) prog_1_method_34_code (1 : Nat) (Option.none : Option Jvm.ClassFile.FieldType)) ∈ pd_B := pd_in1 (tb_4 _ (List.mem_of_getElem? (i := 33) rfl)) rfl
theorem wd_4_35 : (Jvm.Cond.methodLink "PathDecoder" (242 : Nat) ({ cls := "PathDecoder", name := "prepare", desc := "(LPathDecoder$Code;LPathDecoder$Row;I)V" } : Jvm.MethodName)) ∈ pd_B := pd_in1 (tb_4 _ (List.mem_of_getElem? (i := 35) rfl)) rfl
theorem wd_4_37 : (Jvm.Cond.instanceMethod ({ cls := "PathDecoder", name := "prepare", desc := "(LPathDecoder$Code;LPathDecoder$Row;I)V" } : Jvm.MethodName)) ∈ pd_B := pd_in1 (tb_4 _ (List.mem_of_getElem? (i := 37) rfl)) rfl
theorem wd_4_38 : (Jvm.Cond.code ({ cls := "PathDecoder", name := "prepare", desc := "(LPathDecoder$Code;LPathDecoder$Row;I)V" } : Jvm.MethodName) prog_1_method_37_code (7 : Nat) (Option.none : Option Jvm.ClassFile.FieldType)) ∈ pd_B := pd_in1 (tb_4 _ (List.mem_of_getElem? (i := 38) rfl)) rfl
theorem wd_4_39 : (Jvm.Cond.methodLink "PathDecoder" (281 : Nat) ({ cls := "PathDecoder$Lattice", name := "load", desc := "(LPathDecoder$Code;)V" } : Jvm.MethodName)) ∈ pd_B := pd_in1 (tb_4 _ (List.mem_of_getElem? (i := 39) rfl)) rfl
theorem wd_4_40 : (Jvm.Cond.instanceMethod ({ cls := "PathDecoder$Lattice", name := "load", desc := "(LPathDecoder$Code;)V" } : Jvm.MethodName)) ∈ pd_B := pd_in1 (tb_4 _ (List.mem_of_getElem? (i := 40) rfl)) rfl
theorem wd_4_41 : (Jvm.Cond.selects "PathDecoder$Lattice" ({ cls := "PathDecoder$Lattice", name := "load", desc := "(LPathDecoder$Code;)V" } : Jvm.MethodName) ({ cls := "PathDecoder$Lattice", name := "load", desc := "(LPathDecoder$Code;)V" } : Jvm.MethodName)) ∈ pd_B := pd_in1 (tb_4 _ (List.mem_of_getElem? (i := 41) rfl)) rfl
theorem wd_4_42 : (Jvm.Cond.code ({ cls := "PathDecoder$Lattice", name := "load", desc := "(LPathDecoder$Code;)V" } : Jvm.MethodName) prog_3_method_2_code (4 : Nat) (Option.none : Option Jvm.ClassFile.FieldType)) ∈ pd_B := pd_in1 (tb_4 _ (List.mem_of_getElem? (i := 42) rfl)) rfl
theorem wd_4_43 : (Jvm.Cond.methodLink "PathDecoder$Lattice" (28 : Nat) ({ cls := "PathDecoder$Code", name := "states", desc := "()I" } : Jvm.MethodName)) ∈ pd_B := pd_in1 (tb_4 _ (List.mem_of_getElem? (i := 43) rfl)) rfl
theorem wd_4_44 : (Jvm.Cond.methodLink "PathDecoder$Lattice" (33 : Nat) ({ cls := "PathDecoder$Code", name := "stateAfter", desc := "(II)I" } : Jvm.MethodName)) ∈ pd_B := pd_in1 (tb_4 _ (List.mem_of_getElem? (i := 44) rfl)) rfl
theorem wd_4_45 : (Jvm.Cond.methodLink "PathDecoder$Lattice" (37 : Nat) ({ cls := "PathDecoder$Code", name := "outsOf", desc := "(II)I" } : Jvm.MethodName)) ∈ pd_B := pd_in1 (tb_4 _ (List.mem_of_getElem? (i := 45) rfl)) rfl
theorem wd_4_46 : (Jvm.Cond.methodLink "PathDecoder" (371 : Nat) ({ cls := "PathDecoder$Code", name := "steps", desc := "(I)I" } : Jvm.MethodName)) ∈ pd_B := pd_in1 (tb_4 _ (List.mem_of_getElem? (i := 46) rfl)) rfl
theorem wd_4_47 : (Jvm.Cond.methodLink "PathDecoder" (374 : Nat) ({ cls := "PathDecoder$Lattice", name := "clearStep", desc := "(I)V" } : Jvm.MethodName)) ∈ pd_B := pd_in1 (tb_4 _ (List.mem_of_getElem? (i := 47) rfl)) rfl
theorem wd_4_48 : (Jvm.Cond.instanceMethod ({ cls := "PathDecoder$Lattice", name := "clearStep", desc := "(I)V" } : Jvm.MethodName)) ∈ pd_B := pd_in1 (tb_4 _ (List.mem_of_getElem? (i := 48) rfl)) rfl
theorem wd_4_49 : (Jvm.Cond.selects "PathDecoder$Lattice" ({ cls := "PathDecoder$Lattice", name := "clearStep", desc := "(I)V" } : Jvm.MethodName) ({ cls := "PathDecoder$Lattice", name := "clearStep", desc := "(I)V" } : Jvm.MethodName)) ∈ pd_B := pd_in1 (tb_4 _ (List.mem_of_getElem? (i := 49) rfl)) rfl
theorem wd_4_50 : (Jvm.Cond.code ({ cls := "PathDecoder$Lattice", name := "clearStep", desc := "(I)V" } : Jvm.MethodName) prog_3_method_3_code (3 : Nat) (Option.none : Option Jvm.ClassFile.FieldType)) ∈ pd_B := pd_in1 (tb_4 _ (List.mem_of_getElem? (i := 50) rfl)) rfl
theorem wd_4_51 : (Jvm.Cond.methodLink "PathDecoder" (383 : Nat) ({ cls := "PathDecoder$Lattice", name := "addSign", desc := "(IIII)V" } : Jvm.MethodName)) ∈ pd_B := pd_in1 (tb_4 _ (List.mem_of_getElem? (i := 51) rfl)) rfl
theorem wd_4_52 : (Jvm.Cond.instanceMethod ({ cls := "PathDecoder$Lattice", name := "addSign", desc := "(IIII)V" } : Jvm.MethodName)) ∈ pd_B := pd_in1 (tb_4 _ (List.mem_of_getElem? (i := 52) rfl)) rfl
theorem wd_4_53 : (Jvm.Cond.selects "PathDecoder$Lattice" ({ cls := "PathDecoder$Lattice", name := "addSign", desc := "(IIII)V" } : Jvm.MethodName) ({ cls := "PathDecoder$Lattice", name := "addSign", desc := "(IIII)V" } : Jvm.MethodName)) ∈ pd_B := pd_in1 (tb_4 _ (List.mem_of_getElem? (i := 53) rfl)) rfl
theorem wd_4_54 : (Jvm.Cond.code ({ cls := "PathDecoder$Lattice", name := "addSign", desc := "(IIII)V" } : Jvm.MethodName) prog_3_method_4_code (6 : Nat) (Option.none : Option Jvm.ClassFile.FieldType)) ∈ pd_B := pd_in1 (tb_4 _ (List.mem_of_getElem? (i := 54) rfl)) rfl
theorem wd_4_55 : (Jvm.Cond.methodLink "PathDecoder" (246 : Nat) ({ cls := "PathDecoder$Search", name := "findLeast", desc := "(LPathDecoder$Code;II)V" } : Jvm.MethodName)) ∈ pd_B := pd_in1 (tb_4 _ (List.mem_of_getElem? (i := 55) rfl)) rfl
theorem wd_4_56 : (Jvm.Cond.instanceMethod ({ cls := "PathDecoder$Search", name := "findLeast", desc := "(LPathDecoder$Code;II)V" } : Jvm.MethodName)) ∈ pd_B := pd_in1 (tb_4 _ (List.mem_of_getElem? (i := 56) rfl)) rfl
theorem wd_4_57 : (Jvm.Cond.selects "PathDecoder$Search" ({ cls := "PathDecoder$Search", name := "findLeast", desc := "(LPathDecoder$Code;II)V" } : Jvm.MethodName) ({ cls := "PathDecoder$Search", name := "findLeast", desc := "(LPathDecoder$Code;II)V" } : Jvm.MethodName)) ∈ pd_B := pd_in1 (tb_4 _ (List.mem_of_getElem? (i := 57) rfl)) rfl
theorem wd_4_58 : (Jvm.Cond.code ({ cls := "PathDecoder$Search", name := "findLeast", desc := "(LPathDecoder$Code;II)V" } : Jvm.MethodName) prog_7_method_2_code (6 : Nat) (Option.none : Option Jvm.ClassFile.FieldType)) ∈ pd_B := pd_in1 (tb_4 _ (List.mem_of_getElem? (i := 58) rfl)) rfl
theorem wd_4_59 : (Jvm.Cond.methodLink "PathDecoder$Search" (40 : Nat) ({ cls := "PathDecoder$Ways", name := "open", desc := "(I)V" } : Jvm.MethodName)) ∈ pd_B := pd_in1 (tb_4 _ (List.mem_of_getElem? (i := 59) rfl)) rfl
theorem wd_4_60 : (Jvm.Cond.instanceMethod ({ cls := "PathDecoder$Ways", name := "open", desc := "(I)V" } : Jvm.MethodName)) ∈ pd_B := pd_in1 (tb_4 _ (List.mem_of_getElem? (i := 60) rfl)) rfl
theorem wd_4_61 : (Jvm.Cond.selects "PathDecoder$Ways" ({ cls := "PathDecoder$Ways", name := "open", desc := "(I)V" } : Jvm.MethodName) ({ cls := "PathDecoder$Ways", name := "open", desc := "(I)V" } : Jvm.MethodName)) ∈ pd_B := pd_in1 (tb_4 _ (List.mem_of_getElem? (i := 61) rfl)) rfl
theorem wd_4_62 : (Jvm.Cond.code ({ cls := "PathDecoder$Ways", name := "open", desc := "(I)V" } : Jvm.MethodName) prog_12_method_4_code (2 : Nat) (Option.none : Option Jvm.ClassFile.FieldType)) ∈ pd_B := pd_in1 (tb_4 _ (List.mem_of_getElem? (i := 62) rfl)) rfl
theorem wd_4_63 : (Jvm.Cond.methodLink "PathDecoder$Search" (46 : Nat) ({ cls := "PathDecoder$Code", name := "beginnings", desc := "()I" } : Jvm.MethodName)) ∈ pd_B := pd_in1 (tb_4 _ (List.mem_of_getElem? (i := 63) rfl)) rfl
theorem wd_4_64 : (Jvm.Cond.instanceMethod ({ cls := "PathDecoder$Code", name := "beginnings", desc := "()I" } : Jvm.MethodName)) ∈ pd_B := pd_in1 (tb_4 _ (List.mem_of_getElem? (i := 64) rfl)) rfl
theorem wd_4_65 : (Jvm.Cond.selects "PathDecoder$Code" ({ cls := "PathDecoder$Code", name := "beginnings", desc := "()I" } : Jvm.MethodName) ({ cls := "PathDecoder$Code", name := "beginnings", desc := "()I" } : Jvm.MethodName)) ∈ pd_B := pd_in1 (tb_4 _ (List.mem_of_getElem? (i := 65) rfl)) rfl
theorem wd_4_66 : (Jvm.Cond.code ({ cls := "PathDecoder$Code", name := "beginnings", desc := "()I" } : Jvm.MethodName) prog_2_method_7_code (1 : Nat) (Option.some Jvm.ClassFile.FieldType.int)) ∈ pd_B := pd_in1 (tb_4 _ (List.mem_of_getElem? (i := 66) rfl)) rfl
theorem wd_4_67 : (Jvm.Cond.methodLink "PathDecoder$Search" (52 : Nat) ({ cls := "PathDecoder$Lattice", name := "setEnds", desc := "(LPathDecoder$Code;II)V" } : Jvm.MethodName)) ∈ pd_B := pd_in1 (tb_4 _ (List.mem_of_getElem? (i := 67) rfl)) rfl
theorem wd_4_68 : (Jvm.Cond.instanceMethod ({ cls := "PathDecoder$Lattice", name := "setEnds", desc := "(LPathDecoder$Code;II)V" } : Jvm.MethodName)) ∈ pd_B := pd_in1 (tb_4 _ (List.mem_of_getElem? (i := 68) rfl)) rfl
theorem wd_4_69 : (Jvm.Cond.selects "PathDecoder$Lattice" ({ cls := "PathDecoder$Lattice", name := "setEnds", desc := "(LPathDecoder$Code;II)V" } : Jvm.MethodName) ({ cls := "PathDecoder$Lattice", name := "setEnds", desc := "(LPathDecoder$Code;II)V" } : Jvm.MethodName)) ∈ pd_B := pd_in1 (tb_4 _ (List.mem_of_getElem? (i := 69) rfl)) rfl
theorem wd_4_70 : (Jvm.Cond.code ({ cls := "PathDecoder$Lattice", name := "setEnds", desc := "(LPathDecoder$Code;II)V" } : Jvm.MethodName) prog_3_method_6_code (5 : Nat) (Option.none : Option Jvm.ClassFile.FieldType)) ∈ pd_B := pd_in1 (tb_4 _ (List.mem_of_getElem? (i := 70) rfl)) rfl
theorem wd_4_71 : (Jvm.Cond.constant "PathDecoder$Lattice" (43 : Nat) (536870912 : Int32)) ∈ pd_B := pd_in1 (tb_4 _ (List.mem_of_getElem? (i := 71) rfl)) rfl
theorem wd_4_72 : (Jvm.Cond.methodLink "PathDecoder$Lattice" (44 : Nat) ({ cls := "PathDecoder$Code", name := "steps", desc := "(I)I" } : Jvm.MethodName)) ∈ pd_B := pd_in1 (tb_4 _ (List.mem_of_getElem? (i := 72) rfl)) rfl
theorem wd_4_73 : (Jvm.Cond.methodLink "PathDecoder$Lattice" (48 : Nat) ({ cls := "PathDecoder$Lattice", name := "tailPrice", desc := "(III)I" } : Jvm.MethodName)) ∈ pd_B := pd_in1 (tb_4 _ (List.mem_of_getElem? (i := 73) rfl)) rfl
theorem wd_4_75 : (Jvm.Cond.instanceMethod ({ cls := "PathDecoder$Lattice", name := "tailPrice", desc := "(III)I" } : Jvm.MethodName)) ∈ pd_B := pd_in1 (tb_4 _ (List.mem_of_getElem? (i := 75) rfl)) rfl
theorem wd_4_76 : (Jvm.Cond.code ({ cls := "PathDecoder$Lattice", name := "tailPrice", desc := "(III)I" } : Jvm.MethodName) prog_3_method_7_code (8 : Nat) (Option.some Jvm.ClassFile.FieldType.int)) ∈ pd_B := pd_in1 (tb_4 _ (List.mem_of_getElem? (i := 76) rfl)) rfl
theorem wd_4_77 : (Jvm.Cond.methodLink "PathDecoder$Lattice" (52 : Nat) ({ cls := "PathDecoder$Lattice", name := "tailEdge", desc := "(I)I" } : Jvm.MethodName)) ∈ pd_B := pd_in1 (tb_4 _ (List.mem_of_getElem? (i := 77) rfl)) rfl
theorem wd_4_78 : (Jvm.Cond.instanceMethod ({ cls := "PathDecoder$Lattice", name := "tailEdge", desc := "(I)I" } : Jvm.MethodName)) ∈ pd_B := pd_in1 (tb_4 _ (List.mem_of_getElem? (i := 78) rfl)) rfl
theorem wd_4_79 : (Jvm.Cond.selects "PathDecoder$Lattice" ({ cls := "PathDecoder$Lattice", name := "tailEdge", desc := "(I)I" } : Jvm.MethodName) ({ cls := "PathDecoder$Lattice", name := "tailEdge", desc := "(I)I" } : Jvm.MethodName)) ∈ pd_B := pd_in1 (tb_4 _ (List.mem_of_getElem? (i := 79) rfl)) rfl
theorem wd_4_80 : (Jvm.Cond.code ({ cls := "PathDecoder$Lattice", name := "tailEdge", desc := "(I)I" } : Jvm.MethodName) prog_3_method_8_code (2 : Nat) (Option.some Jvm.ClassFile.FieldType.int)) ∈ pd_B := pd_in1 (tb_4 _ (List.mem_of_getElem? (i := 80) rfl)) rfl
theorem wd_4_81 : (Jvm.Cond.methodLink "PathDecoder$Lattice" (55 : Nat) ({ cls := "PathDecoder$Lattice", name := "priceOf", desc := "(II)I" } : Jvm.MethodName)) ∈ pd_B := pd_in1 (tb_4 _ (List.mem_of_getElem? (i := 81) rfl)) rfl
theorem wd_4_82 : (Jvm.Cond.instanceMethod ({ cls := "PathDecoder$Lattice", name := "priceOf", desc := "(II)I" } : Jvm.MethodName)) ∈ pd_B := pd_in1 (tb_4 _ (List.mem_of_getElem? (i := 82) rfl)) rfl
theorem wd_4_83 : (Jvm.Cond.selects "PathDecoder$Lattice" ({ cls := "PathDecoder$Lattice", name := "priceOf", desc := "(II)I" } : Jvm.MethodName) ({ cls := "PathDecoder$Lattice", name := "priceOf", desc := "(II)I" } : Jvm.MethodName)) ∈ pd_B := pd_in1 (tb_4 _ (List.mem_of_getElem? (i := 83) rfl)) rfl
theorem wd_4_84 : (Jvm.Cond.code ({ cls := "PathDecoder$Lattice", name := "priceOf", desc := "(II)I" } : Jvm.MethodName) prog_3_method_5_code (3 : Nat) (Option.some Jvm.ClassFile.FieldType.int)) ∈ pd_B := pd_in1 (tb_4 _ (List.mem_of_getElem? (i := 84) rfl)) rfl
theorem wd_4_85 : (Jvm.Cond.methodLink "PathDecoder$Search" (58 : Nat) ({ cls := "PathDecoder$Search", name := "isWorthwhile", desc := "(II)Z" } : Jvm.MethodName)) ∈ pd_B := pd_in1 (tb_4 _ (List.mem_of_getElem? (i := 85) rfl)) rfl
theorem wd_4_87 : (Jvm.Cond.instanceMethod ({ cls := "PathDecoder$Search", name := "isWorthwhile", desc := "(II)Z" } : Jvm.MethodName)) ∈ pd_B := pd_in1 (tb_4 _ (List.mem_of_getElem? (i := 87) rfl)) rfl
theorem wd_4_88 : (Jvm.Cond.code ({ cls := "PathDecoder$Search", name := "isWorthwhile", desc := "(II)Z" } : Jvm.MethodName) prog_7_method_3_code (3 : Nat) (Option.some Jvm.ClassFile.FieldType.boolean)) ∈ pd_B := pd_in1 (tb_4 _ (List.mem_of_getElem? (i := 88) rfl)) rfl
theorem wd_4_89 : (Jvm.Cond.methodLink "PathDecoder$Search" (62 : Nat) ({ cls := "PathDecoder$Search", name := "comeBack", desc := "(II)V" } : Jvm.MethodName)) ∈ pd_B := pd_in1 (tb_4 _ (List.mem_of_getElem? (i := 89) rfl)) rfl
theorem wd_4_91 : (Jvm.Cond.instanceMethod ({ cls := "PathDecoder$Search", name := "comeBack", desc := "(II)V" } : Jvm.MethodName)) ∈ pd_B := pd_in1 (tb_4 _ (List.mem_of_getElem? (i := 91) rfl)) rfl
theorem wd_4_92 : (Jvm.Cond.code ({ cls := "PathDecoder$Search", name := "comeBack", desc := "(II)V" } : Jvm.MethodName) prog_7_method_5_code (6 : Nat) (Option.none : Option Jvm.ClassFile.FieldType)) ∈ pd_B := pd_in1 (tb_4 _ (List.mem_of_getElem? (i := 92) rfl)) rfl
theorem wd_4_93 : (Jvm.Cond.constant "PathDecoder$Search" (87 : Nat) (536870912 : Int32)) ∈ pd_B := pd_in1 (tb_4 _ (List.mem_of_getElem? (i := 93) rfl)) rfl
theorem wd_4_94 : (Jvm.Cond.methodLink "PathDecoder$Search" (88 : Nat) ({ cls := "PathDecoder$Search", name := "merge", desc := "(III)V" } : Jvm.MethodName)) ∈ pd_B := pd_in1 (tb_4 _ (List.mem_of_getElem? (i := 94) rfl)) rfl
theorem wd_4_96 : (Jvm.Cond.instanceMethod ({ cls := "PathDecoder$Search", name := "merge", desc := "(III)V" } : Jvm.MethodName)) ∈ pd_B := pd_in1 (tb_4 _ (List.mem_of_getElem? (i := 96) rfl)) rfl
theorem wd_4_97 : (Jvm.Cond.code ({ cls := "PathDecoder$Search", name := "merge", desc := "(III)V" } : Jvm.MethodName) prog_7_method_6_code (15 : Nat) (Option.none : Option Jvm.ClassFile.FieldType)) ∈ pd_B := pd_in1 (tb_4 _ (List.mem_of_getElem? (i := 97) rfl)) rfl
theorem wd_4_98 : (Jvm.Cond.methodLink "PathDecoder$Search" (94 : Nat) ({ cls := "PathDecoder$Lattice", name := "priceOf", desc := "(II)I" } : Jvm.MethodName)) ∈ pd_B := pd_in1 (tb_4 _ (List.mem_of_getElem? (i := 98) rfl)) rfl
theorem wd_4_99 : (Jvm.Cond.methodLink "PathDecoder$Search" (69 : Nat) ({ cls := "PathDecoder$Search", name := "follow", desc := "(III)V" } : Jvm.MethodName)) ∈ pd_B := pd_in1 (tb_4 _ (List.mem_of_getElem? (i := 99) rfl)) rfl
theorem wd_4_101 : (Jvm.Cond.instanceMethod ({ cls := "PathDecoder$Search", name := "follow", desc := "(III)V" } : Jvm.MethodName)) ∈ pd_B := pd_in1 (tb_4 _ (List.mem_of_getElem? (i := 101) rfl)) rfl
theorem wd_4_102 : (Jvm.Cond.code ({ cls := "PathDecoder$Search", name := "follow", desc := "(III)V" } : Jvm.MethodName) prog_7_method_7_code (10 : Nat) (Option.none : Option Jvm.ClassFile.FieldType)) ∈ pd_B := pd_in1 (tb_4 _ (List.mem_of_getElem? (i := 102) rfl)) rfl
theorem wd_4_103 : (Jvm.Cond.methodLink "PathDecoder$Search" (98 : Nat) ({ cls := "PathDecoder$Ways", name := "offered", desc := "()LPathDecoder$Way;" } : Jvm.MethodName)) ∈ pd_B := pd_in1 (tb_4 _ (List.mem_of_getElem? (i := 103) rfl)) rfl
theorem wd_4_104 : (Jvm.Cond.instanceMethod ({ cls := "PathDecoder$Ways", name := "offered", desc := "()LPathDecoder$Way;" } : Jvm.MethodName)) ∈ pd_B := pd_in1 (tb_4 _ (List.mem_of_getElem? (i := 104) rfl)) rfl
theorem wd_4_105 : (Jvm.Cond.selects "PathDecoder$Ways" ({ cls := "PathDecoder$Ways", name := "offered", desc := "()LPathDecoder$Way;" } : Jvm.MethodName) ({ cls := "PathDecoder$Ways", name := "offered", desc := "()LPathDecoder$Way;" } : Jvm.MethodName)) ∈ pd_B := pd_in1 (tb_4 _ (List.mem_of_getElem? (i := 105) rfl)) rfl
theorem wd_4_106 : (Jvm.Cond.code ({ cls := "PathDecoder$Ways", name := "offered", desc := "()LPathDecoder$Way;" } : Jvm.MethodName) prog_12_method_5_code (1 : Nat) (Option.some (Jvm.ClassFile.FieldType.object "PathDecoder$Way"))) ∈ pd_B := pd_in1 (tb_4 _ (List.mem_of_getElem? (i := 106) rfl)) rfl
theorem wd_4_107 : (Jvm.Cond.methodLink "PathDecoder$Search" (102 : Nat) ({ cls := "PathDecoder$Way", name := "begin", desc := "(III)V" } : Jvm.MethodName)) ∈ pd_B := pd_in1 (tb_4 _ (List.mem_of_getElem? (i := 107) rfl)) rfl
theorem wd_4_108 : (Jvm.Cond.instanceMethod ({ cls := "PathDecoder$Way", name := "begin", desc := "(III)V" } : Jvm.MethodName)) ∈ pd_B := pd_in1 (tb_4 _ (List.mem_of_getElem? (i := 108) rfl)) rfl
theorem wd_4_109 : (Jvm.Cond.selects "PathDecoder$Way" ({ cls := "PathDecoder$Way", name := "begin", desc := "(III)V" } : Jvm.MethodName) ({ cls := "PathDecoder$Way", name := "begin", desc := "(III)V" } : Jvm.MethodName)) ∈ pd_B := pd_in1 (tb_4 _ (List.mem_of_getElem? (i := 109) rfl)) rfl
theorem wd_4_110 : (Jvm.Cond.code ({ cls := "PathDecoder$Way", name := "begin", desc := "(III)V" } : Jvm.MethodName) prog_11_method_2_code (4 : Nat) (Option.none : Option Jvm.ClassFile.FieldType)) ∈ pd_B := pd_in1 (tb_4 _ (List.mem_of_getElem? (i := 110) rfl)) rfl
theorem wd_4_111 : (Jvm.Cond.methodLink "PathDecoder$Search" (73 : Nat) ({ cls := "PathDecoder$Ways", name := "wouldKeepOffered", desc := "()Z" } : Jvm.MethodName)) ∈ pd_B := pd_in1 (tb_4 _ (List.mem_of_getElem? (i := 111) rfl)) rfl
theorem wd_4_112 : (Jvm.Cond.instanceMethod ({ cls := "PathDecoder$Ways", name := "wouldKeepOffered", desc := "()Z" } : Jvm.MethodName)) ∈ pd_B := pd_in1 (tb_4 _ (List.mem_of_getElem? (i := 112) rfl)) rfl
theorem wd_4_113 : (Jvm.Cond.selects "PathDecoder$Ways" ({ cls := "PathDecoder$Ways", name := "wouldKeepOffered", desc := "()Z" } : Jvm.MethodName) ({ cls := "PathDecoder$Ways", name := "wouldKeepOffered", desc := "()Z" } : Jvm.MethodName)) ∈ pd_B := pd_in1 (tb_4 _ (List.mem_of_getElem? (i := 113) rfl)) rfl
theorem wd_4_114 : (Jvm.Cond.code ({ cls := "PathDecoder$Ways", name := "wouldKeepOffered", desc := "()Z" } : Jvm.MethodName) prog_12_method_6_code (1 : Nat) (Option.some Jvm.ClassFile.FieldType.boolean)) ∈ pd_B := pd_in1 (tb_4 _ (List.mem_of_getElem? (i := 114) rfl)) rfl
theorem wd_4_115 : (Jvm.Cond.methodLink "PathDecoder$Ways" (25 : Nat) ({ cls := "PathDecoder$Way", name := "isAheadOf", desc := "(LPathDecoder$Way;)Z" } : Jvm.MethodName)) ∈ pd_B := pd_in1 (tb_4 _ (List.mem_of_getElem? (i := 115) rfl)) rfl
theorem wd_4_116 : (Jvm.Cond.instanceMethod ({ cls := "PathDecoder$Way", name := "isAheadOf", desc := "(LPathDecoder$Way;)Z" } : Jvm.MethodName)) ∈ pd_B := pd_in1 (tb_4 _ (List.mem_of_getElem? (i := 116) rfl)) rfl
theorem wd_4_117 : (Jvm.Cond.selects "PathDecoder$Way" ({ cls := "PathDecoder$Way", name := "isAheadOf", desc := "(LPathDecoder$Way;)Z" } : Jvm.MethodName) ({ cls := "PathDecoder$Way", name := "isAheadOf", desc := "(LPathDecoder$Way;)Z" } : Jvm.MethodName)) ∈ pd_B := pd_in1 (tb_4 _ (List.mem_of_getElem? (i := 117) rfl)) rfl
theorem wd_4_118 : (Jvm.Cond.code ({ cls := "PathDecoder$Way", name := "isAheadOf", desc := "(LPathDecoder$Way;)Z" } : Jvm.MethodName) prog_11_method_3_code (3 : Nat) (Option.some Jvm.ClassFile.FieldType.boolean)) ∈ pd_B := pd_in1 (tb_4 _ (List.mem_of_getElem? (i := 118) rfl)) rfl
theorem wd_4_119 : (Jvm.Cond.methodLink "PathDecoder$Search" (66 : Nat) ({ cls := "PathDecoder$Search", name := "offerAll", desc := "(II)V" } : Jvm.MethodName)) ∈ pd_B := pd_in1 (tb_4 _ (List.mem_of_getElem? (i := 119) rfl)) rfl
theorem wd_4_121 : (Jvm.Cond.instanceMethod ({ cls := "PathDecoder$Search", name := "offerAll", desc := "(II)V" } : Jvm.MethodName)) ∈ pd_B := pd_in1 (tb_4 _ (List.mem_of_getElem? (i := 121) rfl)) rfl
theorem wd_4_122 : (Jvm.Cond.code ({ cls := "PathDecoder$Search", name := "offerAll", desc := "(II)V" } : Jvm.MethodName) prog_7_method_4_code (5 : Nat) (Option.none : Option Jvm.ClassFile.FieldType)) ∈ pd_B := pd_in1 (tb_4 _ (List.mem_of_getElem? (i := 122) rfl)) rfl
theorem wd_4_123 : (Jvm.Cond.methodLink "PathDecoder$Search" (77 : Nat) ({ cls := "PathDecoder$Ways", name := "settle", desc := "()Z" } : Jvm.MethodName)) ∈ pd_B := pd_in1 (tb_4 _ (List.mem_of_getElem? (i := 123) rfl)) rfl
theorem wd_4_124 : (Jvm.Cond.instanceMethod ({ cls := "PathDecoder$Ways", name := "settle", desc := "()Z" } : Jvm.MethodName)) ∈ pd_B := pd_in1 (tb_4 _ (List.mem_of_getElem? (i := 124) rfl)) rfl
theorem wd_4_125 : (Jvm.Cond.selects "PathDecoder$Ways" ({ cls := "PathDecoder$Ways", name := "settle", desc := "()Z" } : Jvm.MethodName) ({ cls := "PathDecoder$Ways", name := "settle", desc := "()Z" } : Jvm.MethodName)) ∈ pd_B := pd_in1 (tb_4 _ (List.mem_of_getElem? (i := 125) rfl)) rfl
theorem wd_4_126 : (Jvm.Cond.code ({ cls := "PathDecoder$Ways", name := "settle", desc := "()Z" } : Jvm.MethodName) prog_12_method_7_code (3 : Nat) (Option.some Jvm.ClassFile.FieldType.boolean)) ∈ pd_B := pd_in1 (tb_4 _ (List.mem_of_getElem? (i := 126) rfl)) rfl
theorem wd_4_127 : (Jvm.Cond.methodLink "PathDecoder" (250 : Nat) ({ cls := "PathDecoder$Ways", name := "count", desc := "()I" } : Jvm.MethodName)) ∈ pd_B := pd_in1 (tb_4 _ (List.mem_of_getElem? (i := 127) rfl)) rfl
theorem wd_4_128 : (Jvm.Cond.instanceMethod ({ cls := "PathDecoder$Ways", name := "count", desc := "()I" } : Jvm.MethodName)) ∈ pd_B := pd_in1 (tb_4 _ (List.mem_of_getElem? (i := 128) rfl)) rfl
theorem wd_4_129 : (Jvm.Cond.selects "PathDecoder$Ways" ({ cls := "PathDecoder$Ways", name := "count", desc := "()I" } : Jvm.MethodName) ({ cls := "PathDecoder$Ways", name := "count", desc := "()I" } : Jvm.MethodName)) ∈ pd_B := pd_in1 (tb_4 _ (List.mem_of_getElem? (i := 129) rfl)) rfl
theorem wd_4_130 : (Jvm.Cond.code ({ cls := "PathDecoder$Ways", name := "count", desc := "()I" } : Jvm.MethodName) prog_12_method_2_code (1 : Nat) (Option.some Jvm.ClassFile.FieldType.int)) ∈ pd_B := pd_in1 (tb_4 _ (List.mem_of_getElem? (i := 130) rfl)) rfl
theorem wd_4_131 : (Jvm.Cond.methodLink "PathDecoder" (253 : Nat) ({ cls := "PathDecoder$Ways", name := "wayAt", desc := "(I)LPathDecoder$Way;" } : Jvm.MethodName)) ∈ pd_B := pd_in1 (tb_4 _ (List.mem_of_getElem? (i := 131) rfl)) rfl
theorem wd_4_132 : (Jvm.Cond.instanceMethod ({ cls := "PathDecoder$Ways", name := "wayAt", desc := "(I)LPathDecoder$Way;" } : Jvm.MethodName)) ∈ pd_B := pd_in1 (tb_4 _ (List.mem_of_getElem? (i := 132) rfl)) rfl
theorem wd_4_133 : (Jvm.Cond.selects "PathDecoder$Ways" ({ cls := "PathDecoder$Ways", name := "wayAt", desc := "(I)LPathDecoder$Way;" } : Jvm.MethodName) ({ cls := "PathDecoder$Ways", name := "wayAt", desc := "(I)LPathDecoder$Way;" } : Jvm.MethodName)) ∈ pd_B := pd_in1 (tb_4 _ (List.mem_of_getElem? (i := 133) rfl)) rfl
theorem wd_4_134 : (Jvm.Cond.code ({ cls := "PathDecoder$Ways", name := "wayAt", desc := "(I)LPathDecoder$Way;" } : Jvm.MethodName) prog_12_method_3_code (2 : Nat) (Option.some (Jvm.ClassFile.FieldType.object "PathDecoder$Way"))) ∈ pd_B := pd_in1 (tb_4 _ (List.mem_of_getElem? (i := 134) rfl)) rfl
theorem wd_4_135 : (Jvm.Cond.methodLink "PathDecoderLaw" (152 : Nat) ({ cls := "PathDecoderLaw", name := "list", desc := "(LPathDecoder;IIII[J)I" } : Jvm.MethodName)) ∈ pd_B := pd_in1 (tb_4 _ (List.mem_of_getElem? (i := 135) rfl)) rfl
theorem wd_4_136 : (Jvm.Cond.static ({ cls := "PathDecoderLaw", name := "list", desc := "(LPathDecoder;IIII[J)I" } : Jvm.MethodName)) ∈ pd_B := pd_in1 (tb_4 _ (List.mem_of_getElem? (i := 136) rfl)) rfl
theorem wd_4_137 : (Jvm.Cond.codeWith ({ cls := "PathDecoderLaw", name := "list", desc := "(LPathDecoder;IIII[J)I" } : Jvm.MethodName) method_17_code (7 : Nat) (Option.some Jvm.ClassFile.FieldType.int) [((0 : Nat), (14 : Nat), (17 : Nat), (13 : Nat)), ((0 : Nat), (14 : Nat), (21 : Nat), (21 : Nat)), ((0 : Nat), (14 : Nat), (25 : Nat), (15 : Nat))]) ∈ pd_B := pd_in1 (tb_4 _ (List.mem_of_getElem? (i := 137) rfl)) rfl
theorem wd_4_138 : (Jvm.Cond.methodLink "PathDecoderLaw" (61 : Nat) ({ cls := "PathDecoder", name := "list", desc := "(IIII)I" } : Jvm.MethodName)) ∈ pd_B := pd_in1 (tb_4 _ (List.mem_of_getElem? (i := 138) rfl)) rfl
theorem wd_4_139 : (Jvm.Cond.instanceMethod ({ cls := "PathDecoder", name := "list", desc := "(IIII)I" } : Jvm.MethodName)) ∈ pd_B := pd_in1 (tb_4 _ (List.mem_of_getElem? (i := 139) rfl)) rfl
theorem wd_4_140 : (Jvm.Cond.selects "PathDecoder" ({ cls := "PathDecoder", name := "list", desc := "(IIII)I" } : Jvm.MethodName) ({ cls := "PathDecoder", name := "list", desc := "(IIII)I" } : Jvm.MethodName)) ∈ pd_B := pd_in1 (tb_4 _ (List.mem_of_getElem? (i := 140) rfl)) rfl
theorem wd_4_141 : (Jvm.Cond.code ({ cls := "PathDecoder", name := "list", desc := "(IIII)I" } : Jvm.MethodName) prog_1_method_16_code (7 : Nat) (Option.some Jvm.ClassFile.FieldType.int)) ∈ pd_B := pd_in1 (tb_4 _ (List.mem_of_getElem? (i := 141) rfl)) rfl
theorem wd_4_143 : (Jvm.Cond.methodLink "PathDecoderLaw" (155 : Nat) ({ cls := "PathDecoderLaw", name := "few", desc := "(LPathDecoder;IIII[J)I" } : Jvm.MethodName)) ∈ pd_B := pd_in1 (tb_4 _ (List.mem_of_getElem? (i := 143) rfl)) rfl
theorem wd_4_144 : (Jvm.Cond.static ({ cls := "PathDecoderLaw", name := "few", desc := "(LPathDecoder;IIII[J)I" } : Jvm.MethodName)) ∈ pd_B := pd_in1 (tb_4 _ (List.mem_of_getElem? (i := 144) rfl)) rfl
theorem wd_4_145 : (Jvm.Cond.codeWith ({ cls := "PathDecoderLaw", name := "few", desc := "(LPathDecoder;IIII[J)I" } : Jvm.MethodName) method_18_code (7 : Nat) (Option.some Jvm.ClassFile.FieldType.int) [((0 : Nat), (14 : Nat), (17 : Nat), (13 : Nat)), ((0 : Nat), (14 : Nat), (21 : Nat), (21 : Nat)), ((0 : Nat), (14 : Nat), (25 : Nat), (15 : Nat))]) ∈ pd_B := pd_in1 (tb_4 _ (List.mem_of_getElem? (i := 145) rfl)) rfl
theorem wd_4_146 : (Jvm.Cond.methodLink "PathDecoderLaw" (64 : Nat) ({ cls := "PathDecoder", name := "few", desc := "(IIII)I" } : Jvm.MethodName)) ∈ pd_B := pd_in1 (tb_4 _ (List.mem_of_getElem? (i := 146) rfl)) rfl
theorem wd_4_147 : (Jvm.Cond.instanceMethod ({ cls := "PathDecoder", name := "few", desc := "(IIII)I" } : Jvm.MethodName)) ∈ pd_B := pd_in1 (tb_4 _ (List.mem_of_getElem? (i := 147) rfl)) rfl
theorem wd_4_148 : (Jvm.Cond.selects "PathDecoder" ({ cls := "PathDecoder", name := "few", desc := "(IIII)I" } : Jvm.MethodName) ({ cls := "PathDecoder", name := "few", desc := "(IIII)I" } : Jvm.MethodName)) ∈ pd_B := pd_in1 (tb_4 _ (List.mem_of_getElem? (i := 148) rfl)) rfl
theorem wd_4_149 : (Jvm.Cond.code ({ cls := "PathDecoder", name := "few", desc := "(IIII)I" } : Jvm.MethodName) prog_1_method_17_code (7 : Nat) (Option.some Jvm.ClassFile.FieldType.int)) ∈ pd_B := pd_in1 (tb_4 _ (List.mem_of_getElem? (i := 149) rfl)) rfl
theorem wd_4_152 : (Jvm.Cond.methodLink "PathDecoder" (268 : Nat) ({ cls := "PathDecoder$Search", name := "findByFew", desc := "(LPathDecoder$Code;II)V" } : Jvm.MethodName)) ∈ pd_B := pd_in1 (tb_4 _ (List.mem_of_getElem? (i := 152) rfl)) rfl
theorem wd_4_153 : (Jvm.Cond.instanceMethod ({ cls := "PathDecoder$Search", name := "findByFew", desc := "(LPathDecoder$Code;II)V" } : Jvm.MethodName)) ∈ pd_B := pd_in1 (tb_4 _ (List.mem_of_getElem? (i := 153) rfl)) rfl
theorem wd_4_154 : (Jvm.Cond.selects "PathDecoder$Search" ({ cls := "PathDecoder$Search", name := "findByFew", desc := "(LPathDecoder$Code;II)V" } : Jvm.MethodName) ({ cls := "PathDecoder$Search", name := "findByFew", desc := "(LPathDecoder$Code;II)V" } : Jvm.MethodName)) ∈ pd_B := pd_in1 (tb_4 _ (List.mem_of_getElem? (i := 154) rfl)) rfl
theorem wd_4_155 : (Jvm.Cond.code ({ cls := "PathDecoder$Search", name := "findByFew", desc := "(LPathDecoder$Code;II)V" } : Jvm.MethodName) prog_7_method_8_code (6 : Nat) (Option.none : Option Jvm.ClassFile.FieldType)) ∈ pd_B := pd_in1 (tb_4 _ (List.mem_of_getElem? (i := 155) rfl)) rfl
theorem wd_4_156 : (Jvm.Cond.methodLink "PathDecoder$Search" (110 : Nat) ({ cls := "PathDecoder$Code", name := "steps", desc := "(I)I" } : Jvm.MethodName)) ∈ pd_B := pd_in1 (tb_4 _ (List.mem_of_getElem? (i := 156) rfl)) rfl
theorem wd_4_157 : (Jvm.Cond.methodLink "PathDecoder$Search" (114 : Nat) ({ cls := "PathDecoder$Search", name := "goOn", desc := "(IZ)V" } : Jvm.MethodName)) ∈ pd_B := pd_in1 (tb_4 _ (List.mem_of_getElem? (i := 157) rfl)) rfl
theorem wd_4_159 : (Jvm.Cond.instanceMethod ({ cls := "PathDecoder$Search", name := "goOn", desc := "(IZ)V" } : Jvm.MethodName)) ∈ pd_B := pd_in1 (tb_4 _ (List.mem_of_getElem? (i := 159) rfl)) rfl
theorem wd_4_160 : (Jvm.Cond.code ({ cls := "PathDecoder$Search", name := "goOn", desc := "(IZ)V" } : Jvm.MethodName) prog_7_method_9_code (7 : Nat) (Option.none : Option Jvm.ClassFile.FieldType)) ∈ pd_B := pd_in1 (tb_4 _ (List.mem_of_getElem? (i := 160) rfl)) rfl
theorem wd_4_161 : (Jvm.Cond.methodLink "PathDecoder$Search" (130 : Nat) ({ cls := "PathDecoder$Lattice", name := "tailEdge", desc := "(I)I" } : Jvm.MethodName)) ∈ pd_B := pd_in1 (tb_4 _ (List.mem_of_getElem? (i := 161) rfl)) rfl
theorem wd_4_162 : (Jvm.Cond.methodLink "PathDecoder$Search" (118 : Nat) ({ cls := "PathDecoder$Search", name := "thin", desc := "(I)V" } : Jvm.MethodName)) ∈ pd_B := pd_in1 (tb_4 _ (List.mem_of_getElem? (i := 162) rfl)) rfl
theorem wd_4_164 : (Jvm.Cond.instanceMethod ({ cls := "PathDecoder$Search", name := "thin", desc := "(I)V" } : Jvm.MethodName)) ∈ pd_B := pd_in1 (tb_4 _ (List.mem_of_getElem? (i := 164) rfl)) rfl
theorem wd_4_165 : (Jvm.Cond.code ({ cls := "PathDecoder$Search", name := "thin", desc := "(I)V" } : Jvm.MethodName) prog_7_method_10_code (5 : Nat) (Option.none : Option Jvm.ClassFile.FieldType)) ∈ pd_B := pd_in1 (tb_4 _ (List.mem_of_getElem? (i := 165) rfl)) rfl
theorem wd_4_166 : (Jvm.Cond.methodLink "PathDecoder$Search" (124 : Nat) ({ cls := "PathDecoder$Search", name := "cheapestState", desc := "()I" } : Jvm.MethodName)) ∈ pd_B := pd_in1 (tb_4 _ (List.mem_of_getElem? (i := 166) rfl)) rfl
theorem wd_4_168 : (Jvm.Cond.instanceMethod ({ cls := "PathDecoder$Search", name := "cheapestState", desc := "()I" } : Jvm.MethodName)) ∈ pd_B := pd_in1 (tb_4 _ (List.mem_of_getElem? (i := 168) rfl)) rfl
theorem wd_4_169 : (Jvm.Cond.code ({ cls := "PathDecoder$Search", name := "cheapestState", desc := "()I" } : Jvm.MethodName) prog_7_method_11_code (3 : Nat) (Option.some Jvm.ClassFile.FieldType.int)) ∈ pd_B := pd_in1 (tb_4 _ (List.mem_of_getElem? (i := 169) rfl)) rfl
theorem wd_4_170 : (Jvm.Cond.methodLink "PathDecoder$Search" (127 : Nat) ({ cls := "PathDecoder$Search", name := "goBack", desc := "(III)V" } : Jvm.MethodName)) ∈ pd_B := pd_in1 (tb_4 _ (List.mem_of_getElem? (i := 170) rfl)) rfl
theorem wd_4_172 : (Jvm.Cond.instanceMethod ({ cls := "PathDecoder$Search", name := "goBack", desc := "(III)V" } : Jvm.MethodName)) ∈ pd_B := pd_in1 (tb_4 _ (List.mem_of_getElem? (i := 172) rfl)) rfl
theorem wd_4_173 : (Jvm.Cond.code ({ cls := "PathDecoder$Search", name := "goBack", desc := "(III)V" } : Jvm.MethodName) prog_7_method_12_code (8 : Nat) (Option.none : Option Jvm.ClassFile.FieldType)) ∈ pd_B := pd_in1 (tb_4 _ (List.mem_of_getElem? (i := 173) rfl)) rfl
theorem wd_4_174 : (Jvm.Cond.methodLink "PathDecoderLaw" (158 : Nat) ({ cls := "PathDecoderLaw", name := "each", desc := "(LPathDecoder;III[J)I" } : Jvm.MethodName)) ∈ pd_B := pd_in1 (tb_4 _ (List.mem_of_getElem? (i := 174) rfl)) rfl
theorem wd_4_175 : (Jvm.Cond.static ({ cls := "PathDecoderLaw", name := "each", desc := "(LPathDecoder;III[J)I" } : Jvm.MethodName)) ∈ pd_B := pd_in1 (tb_4 _ (List.mem_of_getElem? (i := 175) rfl)) rfl
theorem wd_4_176 : (Jvm.Cond.codeWith ({ cls := "PathDecoderLaw", name := "each", desc := "(LPathDecoder;III[J)I" } : Jvm.MethodName) method_19_code (6 : Nat) (Option.some Jvm.ClassFile.FieldType.int) [((0 : Nat), (12 : Nat), (15 : Nat), (13 : Nat)), ((0 : Nat), (12 : Nat), (19 : Nat), (21 : Nat)), ((0 : Nat), (12 : Nat), (23 : Nat), (15 : Nat))]) ∈ pd_B := pd_in1 (tb_4 _ (List.mem_of_getElem? (i := 176) rfl)) rfl
theorem wd_4_177 : (Jvm.Cond.methodLink "PathDecoderLaw" (67 : Nat) ({ cls := "PathDecoder", name := "each", desc := "(III)I" } : Jvm.MethodName)) ∈ pd_B := pd_in1 (tb_4 _ (List.mem_of_getElem? (i := 177) rfl)) rfl
theorem wd_4_178 : (Jvm.Cond.instanceMethod ({ cls := "PathDecoder", name := "each", desc := "(III)I" } : Jvm.MethodName)) ∈ pd_B := pd_in1 (tb_4 _ (List.mem_of_getElem? (i := 178) rfl)) rfl
theorem wd_4_179 : (Jvm.Cond.selects "PathDecoder" ({ cls := "PathDecoder", name := "each", desc := "(III)I" } : Jvm.MethodName) ({ cls := "PathDecoder", name := "each", desc := "(III)I" } : Jvm.MethodName)) ∈ pd_B := pd_in1 (tb_4 _ (List.mem_of_getElem? (i := 179) rfl)) rfl
theorem wd_4_180 : (Jvm.Cond.code ({ cls := "PathDecoder", name := "each", desc := "(III)I" } : Jvm.MethodName) prog_1_method_18_code (8 : Nat) (Option.some Jvm.ClassFile.FieldType.int)) ∈ pd_B := pd_in1 (tb_4 _ (List.mem_of_getElem? (i := 180) rfl)) rfl
theorem wd_4_181 : (Jvm.Cond.methodLink "PathDecoder" (271 : Nat) ({ cls := "PathDecoder$Seeming", name := "tell", desc := "(LPathDecoder$Code;I[I)V" } : Jvm.MethodName)) ∈ pd_B := pd_in1 (tb_4 _ (List.mem_of_getElem? (i := 181) rfl)) rfl
theorem wd_4_182 : (Jvm.Cond.instanceMethod ({ cls := "PathDecoder$Seeming", name := "tell", desc := "(LPathDecoder$Code;I[I)V" } : Jvm.MethodName)) ∈ pd_B := pd_in1 (tb_4 _ (List.mem_of_getElem? (i := 182) rfl)) rfl
theorem wd_4_183 : (Jvm.Cond.selects "PathDecoder$Seeming" ({ cls := "PathDecoder$Seeming", name := "tell", desc := "(LPathDecoder$Code;I[I)V" } : Jvm.MethodName) ({ cls := "PathDecoder$Seeming", name := "tell", desc := "(LPathDecoder$Code;I[I)V" } : Jvm.MethodName)) ∈ pd_B := pd_in1 (tb_4 _ (List.mem_of_getElem? (i := 183) rfl)) rfl
theorem wd_4_184 : (Jvm.Cond.code ({ cls := "PathDecoder$Seeming", name := "tell", desc := "(LPathDecoder$Code;I[I)V" } : Jvm.MethodName) prog_8_method_2_code (5 : Nat) (Option.none : Option Jvm.ClassFile.FieldType)) ∈ pd_B := pd_in1 (tb_4 _ (List.mem_of_getElem? (i := 184) rfl)) rfl
theorem wd_4_185 : (Jvm.Cond.constant "PathDecoder$Seeming" (31 : Nat) (536870912 : Int32)) ∈ pd_B := pd_in1 (tb_4 _ (List.mem_of_getElem? (i := 185) rfl)) rfl
theorem wd_4_186 : (Jvm.Cond.methodLink "PathDecoder$Seeming" (32 : Nat) ({ cls := "PathDecoder$Code", name := "beginnings", desc := "()I" } : Jvm.MethodName)) ∈ pd_B := pd_in1 (tb_4 _ (List.mem_of_getElem? (i := 186) rfl)) rfl
theorem wd_4_187 : (Jvm.Cond.methodLink "PathDecoder$Seeming" (38 : Nat) ({ cls := "PathDecoder$Lattice", name := "setEnds", desc := "(LPathDecoder$Code;II)V" } : Jvm.MethodName)) ∈ pd_B := pd_in1 (tb_4 _ (List.mem_of_getElem? (i := 187) rfl)) rfl
theorem wd_4_188 : (Jvm.Cond.methodLink "PathDecoder$Seeming" (44 : Nat) ({ cls := "PathDecoder$Seeming", name := "reach", desc := "(II)V" } : Jvm.MethodName)) ∈ pd_B := pd_in1 (tb_4 _ (List.mem_of_getElem? (i := 188) rfl)) rfl
theorem wd_4_190 : (Jvm.Cond.instanceMethod ({ cls := "PathDecoder$Seeming", name := "reach", desc := "(II)V" } : Jvm.MethodName)) ∈ pd_B := pd_in1 (tb_4 _ (List.mem_of_getElem? (i := 190) rfl)) rfl
theorem wd_4_191 : (Jvm.Cond.code ({ cls := "PathDecoder$Seeming", name := "reach", desc := "(II)V" } : Jvm.MethodName) prog_8_method_3_code (7 : Nat) (Option.none : Option Jvm.ClassFile.FieldType)) ∈ pd_B := pd_in1 (tb_4 _ (List.mem_of_getElem? (i := 191) rfl)) rfl
theorem wd_4_192 : (Jvm.Cond.methodLink "PathDecoder$Seeming" (61 : Nat) ({ cls := "PathDecoder$Lattice", name := "priceOf", desc := "(II)I" } : Jvm.MethodName)) ∈ pd_B := pd_in1 (tb_4 _ (List.mem_of_getElem? (i := 192) rfl)) rfl
theorem wd_4_193 : (Jvm.Cond.methodLink "PathDecoder$Seeming" (65 : Nat) ({ cls := "java/lang/Math", name := "min", desc := "(II)I" } : Jvm.MethodName)) ∈ pd_B := pd_in1 (tb_4 _ (List.mem_of_getElem? (i := 193) rfl)) rfl
theorem wd_4_194 : (Jvm.Cond.methodLink "PathDecoder$Seeming" (48 : Nat) ({ cls := "PathDecoder$Seeming", name := "meet", desc := "(I)V" } : Jvm.MethodName)) ∈ pd_B := pd_in1 (tb_4 _ (List.mem_of_getElem? (i := 194) rfl)) rfl
theorem wd_4_196 : (Jvm.Cond.instanceMethod ({ cls := "PathDecoder$Seeming", name := "meet", desc := "(I)V" } : Jvm.MethodName)) ∈ pd_B := pd_in1 (tb_4 _ (List.mem_of_getElem? (i := 196) rfl)) rfl
theorem wd_4_197 : (Jvm.Cond.code ({ cls := "PathDecoder$Seeming", name := "meet", desc := "(I)V" } : Jvm.MethodName) prog_8_method_4_code (7 : Nat) (Option.none : Option Jvm.ClassFile.FieldType)) ∈ pd_B := pd_in1 (tb_4 _ (List.mem_of_getElem? (i := 197) rfl)) rfl
theorem wd_4_198 : (Jvm.Cond.methodLink "PathDecoder$Seeming" (73 : Nat) ({ cls := "PathDecoder$Seeming", name := "behind", desc := "(II)I" } : Jvm.MethodName)) ∈ pd_B := pd_in1 (tb_4 _ (List.mem_of_getElem? (i := 198) rfl)) rfl
theorem wd_4_200 : (Jvm.Cond.instanceMethod ({ cls := "PathDecoder$Seeming", name := "behind", desc := "(II)I" } : Jvm.MethodName)) ∈ pd_B := pd_in1 (tb_4 _ (List.mem_of_getElem? (i := 200) rfl)) rfl
theorem wd_4_201 : (Jvm.Cond.code ({ cls := "PathDecoder$Seeming", name := "behind", desc := "(II)I" } : Jvm.MethodName) prog_8_method_5_code (4 : Nat) (Option.some Jvm.ClassFile.FieldType.int)) ∈ pd_B := pd_in1 (tb_4 _ (List.mem_of_getElem? (i := 201) rfl)) rfl
theorem wd_4_202 : (Jvm.Cond.constant "PathDecoder$Seeming" (52 : Nat) (1000000 : Int32)) ∈ pd_B := pd_in1 (tb_4 _ (List.mem_of_getElem? (i := 202) rfl)) rfl
theorem wd_4_203 : (Jvm.Cond.constant "PathDecoder$Seeming" (53 : Nat) (-1000000 : Int32)) ∈ pd_B := pd_in1 (tb_4 _ (List.mem_of_getElem? (i := 203) rfl)) rfl
theorem wd_4_204 : (Jvm.Cond.methodLink "PathDecoderLaw" (161 : Nat) ({ cls := "PathDecoderLaw", name := "talk", desc := "(LPathDecoder;IIII[J)I" } : Jvm.MethodName)) ∈ pd_B := pd_in1 (tb_4 _ (List.mem_of_getElem? (i := 204) rfl)) rfl
theorem wd_4_205 : (Jvm.Cond.static ({ cls := "PathDecoderLaw", name := "talk", desc := "(LPathDecoder;IIII[J)I" } : Jvm.MethodName)) ∈ pd_B := pd_in1 (tb_4 _ (List.mem_of_getElem? (i := 205) rfl)) rfl
theorem wd_4_206 : (Jvm.Cond.codeWith ({ cls := "PathDecoderLaw", name := "talk", desc := "(LPathDecoder;IIII[J)I" } : Jvm.MethodName) method_20_code (7 : Nat) (Option.some Jvm.ClassFile.FieldType.int) [((0 : Nat), (14 : Nat), (17 : Nat), (13 : Nat)), ((0 : Nat), (14 : Nat), (21 : Nat), (21 : Nat)), ((0 : Nat), (14 : Nat), (25 : Nat), (15 : Nat))]) ∈ pd_B := pd_in1 (tb_4 _ (List.mem_of_getElem? (i := 206) rfl)) rfl
theorem wd_4_207 : (Jvm.Cond.methodLink "PathDecoderLaw" (70 : Nat) ({ cls := "PathDecoder", name := "talk", desc := "(IIII)I" } : Jvm.MethodName)) ∈ pd_B := pd_in1 (tb_4 _ (List.mem_of_getElem? (i := 207) rfl)) rfl
theorem wd_4_208 : (Jvm.Cond.instanceMethod ({ cls := "PathDecoder", name := "talk", desc := "(IIII)I" } : Jvm.MethodName)) ∈ pd_B := pd_in1 (tb_4 _ (List.mem_of_getElem? (i := 208) rfl)) rfl
theorem wd_4_209 : (Jvm.Cond.selects "PathDecoder" ({ cls := "PathDecoder", name := "talk", desc := "(IIII)I" } : Jvm.MethodName) ({ cls := "PathDecoder", name := "talk", desc := "(IIII)I" } : Jvm.MethodName)) ∈ pd_B := pd_in1 (tb_4 _ (List.mem_of_getElem? (i := 209) rfl)) rfl
theorem wd_4_210 : (Jvm.Cond.code ({ cls := "PathDecoder", name := "talk", desc := "(IIII)I" } : Jvm.MethodName) prog_1_method_19_code (10 : Nat) (Option.some Jvm.ClassFile.FieldType.int)) ∈ pd_B := pd_in1 (tb_4 _ (List.mem_of_getElem? (i := 210) rfl)) rfl
theorem wd_4_212 : (Jvm.Cond.methodLink "PathDecoder" (277 : Nat) ({ cls := "PathDecoder$Code", name := "ordersAll", desc := "(I)Z" } : Jvm.MethodName)) ∈ pd_B := pd_in1 (tb_4 _ (List.mem_of_getElem? (i := 212) rfl)) rfl
theorem wd_4_213 : (Jvm.Cond.methodLink "PathDecoder" (284 : Nat) ({ cls := "PathDecoder$Turns", name := "run", desc := "(LPathDecoder$Code;II)I" } : Jvm.MethodName)) ∈ pd_B := pd_in1 (tb_4 _ (List.mem_of_getElem? (i := 213) rfl)) rfl
theorem wd_4_214 : (Jvm.Cond.instanceMethod ({ cls := "PathDecoder$Turns", name := "run", desc := "(LPathDecoder$Code;II)I" } : Jvm.MethodName)) ∈ pd_B := pd_in1 (tb_4 _ (List.mem_of_getElem? (i := 214) rfl)) rfl
theorem wd_4_215 : (Jvm.Cond.selects "PathDecoder$Turns" ({ cls := "PathDecoder$Turns", name := "run", desc := "(LPathDecoder$Code;II)I" } : Jvm.MethodName) ({ cls := "PathDecoder$Turns", name := "run", desc := "(LPathDecoder$Code;II)I" } : Jvm.MethodName)) ∈ pd_B := pd_in1 (tb_4 _ (List.mem_of_getElem? (i := 215) rfl)) rfl
theorem wd_4_216 : (Jvm.Cond.code ({ cls := "PathDecoder$Turns", name := "run", desc := "(LPathDecoder$Code;II)I" } : Jvm.MethodName) prog_10_method_4_code (5 : Nat) (Option.some Jvm.ClassFile.FieldType.int)) ∈ pd_B := pd_in1 (tb_4 _ (List.mem_of_getElem? (i := 216) rfl)) rfl
theorem wd_4_217 : (Jvm.Cond.methodLink "PathDecoder$Turns" (40 : Nat) ({ cls := "PathDecoder$Turns", name := "doHalf", desc := "(LPathDecoder$Code;IZ)V" } : Jvm.MethodName)) ∈ pd_B := pd_in1 (tb_4 _ (List.mem_of_getElem? (i := 217) rfl)) rfl
theorem wd_4_219 : (Jvm.Cond.instanceMethod ({ cls := "PathDecoder$Turns", name := "doHalf", desc := "(LPathDecoder$Code;IZ)V" } : Jvm.MethodName)) ∈ pd_B := pd_in1 (tb_4 _ (List.mem_of_getElem? (i := 219) rfl)) rfl
theorem wd_4_220 : (Jvm.Cond.code ({ cls := "PathDecoder$Turns", name := "doHalf", desc := "(LPathDecoder$Code;IZ)V" } : Jvm.MethodName) prog_10_method_6_code (7 : Nat) (Option.none : Option Jvm.ClassFile.FieldType)) ∈ pd_B := pd_in1 (tb_4 _ (List.mem_of_getElem? (i := 220) rfl)) rfl
theorem wd_4_221 : (Jvm.Cond.methodLink "PathDecoder$Turns" (48 : Nat) ({ cls := "PathDecoder$Code", name := "orderOf", desc := "(II)I" } : Jvm.MethodName)) ∈ pd_B := pd_in1 (tb_4 _ (List.mem_of_getElem? (i := 221) rfl)) rfl
theorem wd_4_222 : (Jvm.Cond.methodLink "PathDecoder$Turns" (54 : Nat) ({ cls := "PathDecoder$Turns", name := "price", desc := "(LPathDecoder$Code;IIZ)V" } : Jvm.MethodName)) ∈ pd_B := pd_in1 (tb_4 _ (List.mem_of_getElem? (i := 222) rfl)) rfl
theorem wd_4_224 : (Jvm.Cond.instanceMethod ({ cls := "PathDecoder$Turns", name := "price", desc := "(LPathDecoder$Code;IIZ)V" } : Jvm.MethodName)) ∈ pd_B := pd_in1 (tb_4 _ (List.mem_of_getElem? (i := 224) rfl)) rfl
theorem wd_4_225 : (Jvm.Cond.code ({ cls := "PathDecoder$Turns", name := "price", desc := "(LPathDecoder$Code;IIZ)V" } : Jvm.MethodName) prog_10_method_7_code (10 : Nat) (Option.none : Option Jvm.ClassFile.FieldType)) ∈ pd_B := pd_in1 (tb_4 _ (List.mem_of_getElem? (i := 225) rfl)) rfl
theorem wd_4_226 : (Jvm.Cond.methodLink "PathDecoder$Turns" (77 : Nat) ({ cls := "java/lang/Math", name := "max", desc := "(II)I" } : Jvm.MethodName)) ∈ pd_B := pd_in1 (tb_4 _ (List.mem_of_getElem? (i := 226) rfl)) rfl
theorem wd_4_227 : (Jvm.Cond.methodLink "PathDecoder$Turns" (85 : Nat) ({ cls := "PathDecoder$Lattice", name := "clearStep", desc := "(I)V" } : Jvm.MethodName)) ∈ pd_B := pd_in1 (tb_4 _ (List.mem_of_getElem? (i := 227) rfl)) rfl
theorem wd_4_228 : (Jvm.Cond.methodLink "PathDecoder$Turns" (91 : Nat) ({ cls := "PathDecoder$Lattice", name := "addSign", desc := "(IIII)V" } : Jvm.MethodName)) ∈ pd_B := pd_in1 (tb_4 _ (List.mem_of_getElem? (i := 228) rfl)) rfl
theorem wd_4_229 : (Jvm.Cond.methodLink "PathDecoder$Turns" (58 : Nat) ({ cls := "PathDecoder$Seeming", name := "tell", desc := "(LPathDecoder$Code;I[I)V" } : Jvm.MethodName)) ∈ pd_B := pd_in1 (tb_4 _ (List.mem_of_getElem? (i := 229) rfl)) rfl
theorem wd_4_230 : (Jvm.Cond.methodLink "PathDecoder$Turns" (64 : Nat) ({ cls := "PathDecoder$Received", name := "tells", desc := "(I)I" } : Jvm.MethodName)) ∈ pd_B := pd_in1 (tb_4 _ (List.mem_of_getElem? (i := 230) rfl)) rfl
theorem wd_4_231 : (Jvm.Cond.instanceMethod ({ cls := "PathDecoder$Received", name := "tells", desc := "(I)I" } : Jvm.MethodName)) ∈ pd_B := pd_in1 (tb_4 _ (List.mem_of_getElem? (i := 231) rfl)) rfl
theorem wd_4_232 : (Jvm.Cond.selects "PathDecoder$Received" ({ cls := "PathDecoder$Received", name := "tells", desc := "(I)I" } : Jvm.MethodName) ({ cls := "PathDecoder$Received", name := "tells", desc := "(I)I" } : Jvm.MethodName)) ∈ pd_B := pd_in1 (tb_4 _ (List.mem_of_getElem? (i := 232) rfl)) rfl
theorem wd_4_233 : (Jvm.Cond.code ({ cls := "PathDecoder$Received", name := "tells", desc := "(I)I" } : Jvm.MethodName) prog_5_method_5_code (2 : Nat) (Option.some Jvm.ClassFile.FieldType.int)) ∈ pd_B := pd_in1 (tb_4 _ (List.mem_of_getElem? (i := 233) rfl)) rfl
theorem wd_4_235 : (Jvm.Cond.methodLink "PathDecoder$Turns" (44 : Nat) ({ cls := "PathDecoder$Turns", name := "sayTheSame", desc := "(I)Z" } : Jvm.MethodName)) ∈ pd_B := pd_in1 (tb_4 _ (List.mem_of_getElem? (i := 235) rfl)) rfl
theorem wd_4_237 : (Jvm.Cond.instanceMethod ({ cls := "PathDecoder$Turns", name := "sayTheSame", desc := "(I)Z" } : Jvm.MethodName)) ∈ pd_B := pd_in1 (tb_4 _ (List.mem_of_getElem? (i := 237) rfl)) rfl
theorem wd_4_238 : (Jvm.Cond.code ({ cls := "PathDecoder$Turns", name := "sayTheSame", desc := "(I)Z" } : Jvm.MethodName) prog_10_method_5_code (3 : Nat) (Option.some Jvm.ClassFile.FieldType.boolean)) ∈ pd_B := pd_in1 (tb_4 _ (List.mem_of_getElem? (i := 238) rfl)) rfl
theorem wd_4_239 : (Jvm.Cond.methodLink "PathDecoder" (288 : Nat) ({ cls := "PathDecoder$Turns", name := "didAgree", desc := "()Z" } : Jvm.MethodName)) ∈ pd_B := pd_in1 (tb_4 _ (List.mem_of_getElem? (i := 239) rfl)) rfl
theorem wd_5_0 : (Jvm.Cond.instanceMethod ({ cls := "PathDecoder$Turns", name := "didAgree", desc := "()Z" } : Jvm.MethodName)) ∈ pd_B := pd_in1 (tb_5 _ (List.mem_of_getElem? (i := 0) rfl)) rfl
theorem wd_5_1 : (Jvm.Cond.selects "PathDecoder$Turns" ({ cls := "PathDecoder$Turns", name := "didAgree", desc := "()Z" } : Jvm.MethodName) ({ cls := "PathDecoder$Turns", name := "didAgree", desc := "()Z" } : Jvm.MethodName)) ∈ pd_B := pd_in1 (tb_5 _ (List.mem_of_getElem? (i := 1) rfl)) rfl
theorem wd_5_2 : (Jvm.Cond.code ({ cls := "PathDecoder$Turns", name := "didAgree", desc := "()Z" } : Jvm.MethodName) prog_10_method_2_code (1 : Nat) (Option.some Jvm.ClassFile.FieldType.boolean)) ∈ pd_B := pd_in1 (tb_5 _ (List.mem_of_getElem? (i := 2) rfl)) rfl
theorem wd_5_3 : (Jvm.Cond.methodLink "PathDecoder" (291 : Nat) ({ cls := "PathDecoder$Ways", name := "open", desc := "(I)V" } : Jvm.MethodName)) ∈ pd_B := pd_in1 (tb_5 _ (List.mem_of_getElem? (i := 3) rfl)) rfl
theorem wd_5_4 : (Jvm.Cond.methodLink "PathDecoder" (294 : Nat) ({ cls := "PathDecoder$Ways", name := "offered", desc := "()LPathDecoder$Way;" } : Jvm.MethodName)) ∈ pd_B := pd_in1 (tb_5 _ (List.mem_of_getElem? (i := 4) rfl)) rfl
theorem wd_5_5 : (Jvm.Cond.methodLink "PathDecoder" (298 : Nat) ({ cls := "PathDecoder$Way", name := "begin", desc := "(III)V" } : Jvm.MethodName)) ∈ pd_B := pd_in1 (tb_5 _ (List.mem_of_getElem? (i := 5) rfl)) rfl
theorem wd_5_6 : (Jvm.Cond.methodLink "PathDecoder" (300 : Nat) ({ cls := "PathDecoder$Turns", name := "lastSeeming", desc := "(I)I" } : Jvm.MethodName)) ∈ pd_B := pd_in1 (tb_5 _ (List.mem_of_getElem? (i := 6) rfl)) rfl
theorem wd_5_7 : (Jvm.Cond.instanceMethod ({ cls := "PathDecoder$Turns", name := "lastSeeming", desc := "(I)I" } : Jvm.MethodName)) ∈ pd_B := pd_in1 (tb_5 _ (List.mem_of_getElem? (i := 7) rfl)) rfl
theorem wd_5_8 : (Jvm.Cond.selects "PathDecoder$Turns" ({ cls := "PathDecoder$Turns", name := "lastSeeming", desc := "(I)I" } : Jvm.MethodName) ({ cls := "PathDecoder$Turns", name := "lastSeeming", desc := "(I)I" } : Jvm.MethodName)) ∈ pd_B := pd_in1 (tb_5 _ (List.mem_of_getElem? (i := 8) rfl)) rfl
theorem wd_5_9 : (Jvm.Cond.code ({ cls := "PathDecoder$Turns", name := "lastSeeming", desc := "(I)I" } : Jvm.MethodName) prog_10_method_3_code (2 : Nat) (Option.some Jvm.ClassFile.FieldType.int)) ∈ pd_B := pd_in1 (tb_5 _ (List.mem_of_getElem? (i := 9) rfl)) rfl
theorem wd_5_10 : (Jvm.Cond.methodLink "PathDecoder" (307 : Nat) ({ cls := "PathDecoder$Ways", name := "settle", desc := "()Z" } : Jvm.MethodName)) ∈ pd_B := pd_in1 (tb_5 _ (List.mem_of_getElem? (i := 10) rfl)) rfl
theorem wd_5_11 : (Jvm.Cond.methodLink "PathDecoderLaw" (169 : Nat) ({ cls := "PathDecoderLaw", name := "seems", desc := "(LPathDecoder;I[J)I" } : Jvm.MethodName)) ∈ pd_B := pd_in1 (tb_5 _ (List.mem_of_getElem? (i := 11) rfl)) rfl
theorem wd_5_12 : (Jvm.Cond.static ({ cls := "PathDecoderLaw", name := "seems", desc := "(LPathDecoder;I[J)I" } : Jvm.MethodName)) ∈ pd_B := pd_in1 (tb_5 _ (List.mem_of_getElem? (i := 12) rfl)) rfl
theorem wd_5_13 : (Jvm.Cond.codeWith ({ cls := "PathDecoderLaw", name := "seems", desc := "(LPathDecoder;I[J)I" } : Jvm.MethodName) method_21_code (4 : Nat) (Option.some Jvm.ClassFile.FieldType.int) [((0 : Nat), (9 : Nat), (12 : Nat), (21 : Nat))]) ∈ pd_B := pd_in1 (tb_5 _ (List.mem_of_getElem? (i := 13) rfl)) rfl
theorem wd_5_14 : (Jvm.Cond.methodLink "PathDecoderLaw" (73 : Nat) ({ cls := "PathDecoder", name := "seems", desc := "(I)I" } : Jvm.MethodName)) ∈ pd_B := pd_in1 (tb_5 _ (List.mem_of_getElem? (i := 14) rfl)) rfl
theorem wd_5_15 : (Jvm.Cond.instanceMethod ({ cls := "PathDecoder", name := "seems", desc := "(I)I" } : Jvm.MethodName)) ∈ pd_B := pd_in1 (tb_5 _ (List.mem_of_getElem? (i := 15) rfl)) rfl
theorem wd_5_16 : (Jvm.Cond.selects "PathDecoder" ({ cls := "PathDecoder", name := "seems", desc := "(I)I" } : Jvm.MethodName) ({ cls := "PathDecoder", name := "seems", desc := "(I)I" } : Jvm.MethodName)) ∈ pd_B := pd_in1 (tb_5 _ (List.mem_of_getElem? (i := 16) rfl)) rfl
theorem wd_5_17 : (Jvm.Cond.code ({ cls := "PathDecoder", name := "seems", desc := "(I)I" } : Jvm.MethodName) prog_1_method_21_code (2 : Nat) (Option.some Jvm.ClassFile.FieldType.int)) ∈ pd_B := pd_in1 (tb_5 _ (List.mem_of_getElem? (i := 17) rfl)) rfl
theorem wd_5_19 : (Jvm.Cond.methodLink "PathDecoderLaw" (173 : Nat) ({ cls := "PathDecoderLaw", name := "way", desc := "(LPathDecoder;II[J)I" } : Jvm.MethodName)) ∈ pd_B := pd_in1 (tb_5 _ (List.mem_of_getElem? (i := 19) rfl)) rfl
theorem wd_5_20 : (Jvm.Cond.static ({ cls := "PathDecoderLaw", name := "way", desc := "(LPathDecoder;II[J)I" } : Jvm.MethodName)) ∈ pd_B := pd_in1 (tb_5 _ (List.mem_of_getElem? (i := 20) rfl)) rfl
theorem wd_5_21 : (Jvm.Cond.codeWith ({ cls := "PathDecoderLaw", name := "way", desc := "(LPathDecoder;II[J)I" } : Jvm.MethodName) method_22_code (5 : Nat) (Option.some Jvm.ClassFile.FieldType.int) [((0 : Nat), (10 : Nat), (13 : Nat), (21 : Nat))]) ∈ pd_B := pd_in1 (tb_5 _ (List.mem_of_getElem? (i := 21) rfl)) rfl
theorem wd_5_22 : (Jvm.Cond.methodLink "PathDecoderLaw" (77 : Nat) ({ cls := "PathDecoder", name := "way", desc := "(II)I" } : Jvm.MethodName)) ∈ pd_B := pd_in1 (tb_5 _ (List.mem_of_getElem? (i := 22) rfl)) rfl
theorem wd_5_23 : (Jvm.Cond.instanceMethod ({ cls := "PathDecoder", name := "way", desc := "(II)I" } : Jvm.MethodName)) ∈ pd_B := pd_in1 (tb_5 _ (List.mem_of_getElem? (i := 23) rfl)) rfl
theorem wd_5_24 : (Jvm.Cond.selects "PathDecoder" ({ cls := "PathDecoder", name := "way", desc := "(II)I" } : Jvm.MethodName) ({ cls := "PathDecoder", name := "way", desc := "(II)I" } : Jvm.MethodName)) ∈ pd_B := pd_in1 (tb_5 _ (List.mem_of_getElem? (i := 24) rfl)) rfl
theorem wd_5_25 : (Jvm.Cond.code ({ cls := "PathDecoder", name := "way", desc := "(II)I" } : Jvm.MethodName) prog_1_method_22_code (4 : Nat) (Option.some Jvm.ClassFile.FieldType.int)) ∈ pd_B := pd_in1 (tb_5 _ (List.mem_of_getElem? (i := 25) rfl)) rfl
theorem wd_5_26 : (Jvm.Cond.methodLink "PathDecoder" (312 : Nat) ({ cls := "PathDecoder", name := "wayOf", desc := "(I)LPathDecoder$Way;" } : Jvm.MethodName)) ∈ pd_B := pd_in1 (tb_5 _ (List.mem_of_getElem? (i := 26) rfl)) rfl
theorem wd_5_28 : (Jvm.Cond.instanceMethod ({ cls := "PathDecoder", name := "wayOf", desc := "(I)LPathDecoder$Way;" } : Jvm.MethodName)) ∈ pd_B := pd_in1 (tb_5 _ (List.mem_of_getElem? (i := 28) rfl)) rfl
theorem wd_5_29 : (Jvm.Cond.code ({ cls := "PathDecoder", name := "wayOf", desc := "(I)LPathDecoder$Way;" } : Jvm.MethodName) prog_1_method_33_code (3 : Nat) (Option.some (Jvm.ClassFile.FieldType.object "PathDecoder$Way"))) ∈ pd_B := pd_in1 (tb_5 _ (List.mem_of_getElem? (i := 29) rfl)) rfl
theorem wd_5_32 : (Jvm.Cond.methodLink "PathDecoderLaw" (176 : Nat) ({ cls := "PathDecoderLaw", name := "take", desc := "(LPathDecoder;II[J)I" } : Jvm.MethodName)) ∈ pd_B := pd_in1 (tb_5 _ (List.mem_of_getElem? (i := 32) rfl)) rfl
theorem wd_5_33 : (Jvm.Cond.static ({ cls := "PathDecoderLaw", name := "take", desc := "(LPathDecoder;II[J)I" } : Jvm.MethodName)) ∈ pd_B := pd_in1 (tb_5 _ (List.mem_of_getElem? (i := 33) rfl)) rfl
theorem wd_5_34 : (Jvm.Cond.codeWith ({ cls := "PathDecoderLaw", name := "take", desc := "(LPathDecoder;II[J)I" } : Jvm.MethodName) method_23_code (5 : Nat) (Option.some Jvm.ClassFile.FieldType.int) [((0 : Nat), (10 : Nat), (13 : Nat), (13 : Nat)), ((0 : Nat), (10 : Nat), (17 : Nat), (21 : Nat))]) ∈ pd_B := pd_in1 (tb_5 _ (List.mem_of_getElem? (i := 34) rfl)) rfl
theorem wd_5_35 : (Jvm.Cond.methodLink "PathDecoderLaw" (80 : Nat) ({ cls := "PathDecoder", name := "take", desc := "(II)I" } : Jvm.MethodName)) ∈ pd_B := pd_in1 (tb_5 _ (List.mem_of_getElem? (i := 35) rfl)) rfl
theorem wd_5_36 : (Jvm.Cond.instanceMethod ({ cls := "PathDecoder", name := "take", desc := "(II)I" } : Jvm.MethodName)) ∈ pd_B := pd_in1 (tb_5 _ (List.mem_of_getElem? (i := 36) rfl)) rfl
theorem wd_5_37 : (Jvm.Cond.selects "PathDecoder" ({ cls := "PathDecoder", name := "take", desc := "(II)I" } : Jvm.MethodName) ({ cls := "PathDecoder", name := "take", desc := "(II)I" } : Jvm.MethodName)) ∈ pd_B := pd_in1 (tb_5 _ (List.mem_of_getElem? (i := 37) rfl)) rfl
theorem wd_5_38 : (Jvm.Cond.code ({ cls := "PathDecoder", name := "take", desc := "(II)I" } : Jvm.MethodName) prog_1_method_23_code (6 : Nat) (Option.some Jvm.ClassFile.FieldType.int)) ∈ pd_B := pd_in1 (tb_5 _ (List.mem_of_getElem? (i := 38) rfl)) rfl
theorem wd_5_39 : (Jvm.Cond.methodLink "PathDecoderLaw" (179 : Nat) ({ cls := "PathDecoderLaw", name := "bad", desc := "(LPathDecoder;I[J)I" } : Jvm.MethodName)) ∈ pd_B := pd_in1 (tb_5 _ (List.mem_of_getElem? (i := 39) rfl)) rfl
theorem wd_5_40 : (Jvm.Cond.static ({ cls := "PathDecoderLaw", name := "bad", desc := "(LPathDecoder;I[J)I" } : Jvm.MethodName)) ∈ pd_B := pd_in1 (tb_5 _ (List.mem_of_getElem? (i := 40) rfl)) rfl
theorem wd_5_41 : (Jvm.Cond.codeWith ({ cls := "PathDecoderLaw", name := "bad", desc := "(LPathDecoder;I[J)I" } : Jvm.MethodName) method_24_code (4 : Nat) (Option.some Jvm.ClassFile.FieldType.int) [((0 : Nat), (16 : Nat), (19 : Nat), (13 : Nat)), ((0 : Nat), (16 : Nat), (22 : Nat), (21 : Nat))]) ∈ pd_B := pd_in1 (tb_5 _ (List.mem_of_getElem? (i := 41) rfl)) rfl
theorem wd_5_42 : (Jvm.Cond.methodLink "PathDecoderLaw" (83 : Nat) ({ cls := "PathDecoder", name := "bad", desc := "(I)Z" } : Jvm.MethodName)) ∈ pd_B := pd_in1 (tb_5 _ (List.mem_of_getElem? (i := 42) rfl)) rfl
theorem wd_5_43 : (Jvm.Cond.instanceMethod ({ cls := "PathDecoder", name := "bad", desc := "(I)Z" } : Jvm.MethodName)) ∈ pd_B := pd_in1 (tb_5 _ (List.mem_of_getElem? (i := 43) rfl)) rfl
theorem wd_5_44 : (Jvm.Cond.selects "PathDecoder" ({ cls := "PathDecoder", name := "bad", desc := "(I)Z" } : Jvm.MethodName) ({ cls := "PathDecoder", name := "bad", desc := "(I)Z" } : Jvm.MethodName)) ∈ pd_B := pd_in1 (tb_5 _ (List.mem_of_getElem? (i := 44) rfl)) rfl
theorem wd_5_45 : (Jvm.Cond.code ({ cls := "PathDecoder", name := "bad", desc := "(I)Z" } : Jvm.MethodName) prog_1_method_24_code (2 : Nat) (Option.some Jvm.ClassFile.FieldType.boolean)) ∈ pd_B := pd_in1 (tb_5 _ (List.mem_of_getElem? (i := 45) rfl)) rfl
theorem wd_5_46 : (Jvm.Cond.methodLink "PathDecoder" (322 : Nat) ({ cls := "PathDecoder", name := "codeWithWeight", desc := "(I)LPathDecoder$Code;" } : Jvm.MethodName)) ∈ pd_B := pd_in1 (tb_5 _ (List.mem_of_getElem? (i := 46) rfl)) rfl
theorem wd_5_48 : (Jvm.Cond.instanceMethod ({ cls := "PathDecoder", name := "codeWithWeight", desc := "(I)LPathDecoder$Code;" } : Jvm.MethodName)) ∈ pd_B := pd_in1 (tb_5 _ (List.mem_of_getElem? (i := 48) rfl)) rfl
theorem wd_5_49 : (Jvm.Cond.code ({ cls := "PathDecoder", name := "codeWithWeight", desc := "(I)LPathDecoder$Code;" } : Jvm.MethodName) prog_1_method_32_code (3 : Nat) (Option.some (Jvm.ClassFile.FieldType.object "PathDecoder$Code"))) ∈ pd_B := pd_in1 (tb_5 _ (List.mem_of_getElem? (i := 49) rfl)) rfl
theorem wd_5_51 : (Jvm.Cond.methodLink "PathDecoder" (325 : Nat) ({ cls := "PathDecoder$Spectrum", name := "read", desc := "(LPathDecoder$Code;)V" } : Jvm.MethodName)) ∈ pd_B := pd_in1 (tb_5 _ (List.mem_of_getElem? (i := 51) rfl)) rfl
theorem wd_5_52 : (Jvm.Cond.instanceMethod ({ cls := "PathDecoder$Spectrum", name := "read", desc := "(LPathDecoder$Code;)V" } : Jvm.MethodName)) ∈ pd_B := pd_in1 (tb_5 _ (List.mem_of_getElem? (i := 52) rfl)) rfl
theorem wd_5_53 : (Jvm.Cond.selects "PathDecoder$Spectrum" ({ cls := "PathDecoder$Spectrum", name := "read", desc := "(LPathDecoder$Code;)V" } : Jvm.MethodName) ({ cls := "PathDecoder$Spectrum", name := "read", desc := "(LPathDecoder$Code;)V" } : Jvm.MethodName)) ∈ pd_B := pd_in1 (tb_5 _ (List.mem_of_getElem? (i := 53) rfl)) rfl
theorem wd_5_54 : (Jvm.Cond.code ({ cls := "PathDecoder$Spectrum", name := "read", desc := "(LPathDecoder$Code;)V" } : Jvm.MethodName) prog_9_method_4_code (4 : Nat) (Option.none : Option Jvm.ClassFile.FieldType)) ∈ pd_B := pd_in1 (tb_5 _ (List.mem_of_getElem? (i := 54) rfl)) rfl
theorem wd_5_55 : (Jvm.Cond.methodLink "PathDecoder$Spectrum" (50 : Nat) ({ cls := "PathDecoder$Lattice", name := "load", desc := "(LPathDecoder$Code;)V" } : Jvm.MethodName)) ∈ pd_B := pd_in1 (tb_5 _ (List.mem_of_getElem? (i := 55) rfl)) rfl
theorem wd_5_56 : (Jvm.Cond.methodLink "PathDecoder$Spectrum" (57 : Nat) ({ cls := "PathDecoder$Spectrum", name := "isSilent", desc := "(I)Z" } : Jvm.MethodName)) ∈ pd_B := pd_in1 (tb_5 _ (List.mem_of_getElem? (i := 56) rfl)) rfl
theorem wd_5_58 : (Jvm.Cond.instanceMethod ({ cls := "PathDecoder$Spectrum", name := "isSilent", desc := "(I)Z" } : Jvm.MethodName)) ∈ pd_B := pd_in1 (tb_5 _ (List.mem_of_getElem? (i := 58) rfl)) rfl
theorem wd_5_59 : (Jvm.Cond.code ({ cls := "PathDecoder$Spectrum", name := "isSilent", desc := "(I)Z" } : Jvm.MethodName) prog_9_method_3_code (2 : Nat) (Option.some Jvm.ClassFile.FieldType.boolean)) ∈ pd_B := pd_in1 (tb_5 _ (List.mem_of_getElem? (i := 59) rfl)) rfl
theorem wd_5_60 : (Jvm.Cond.methodLink "PathDecoder$Spectrum" (44 : Nat) ({ cls := "PathDecoder$Spectrum", name := "weightOf", desc := "(I)I" } : Jvm.MethodName)) ∈ pd_B := pd_in1 (tb_5 _ (List.mem_of_getElem? (i := 60) rfl)) rfl
theorem wd_5_62 : (Jvm.Cond.instanceMethod ({ cls := "PathDecoder$Spectrum", name := "weightOf", desc := "(I)I" } : Jvm.MethodName)) ∈ pd_B := pd_in1 (tb_5 _ (List.mem_of_getElem? (i := 62) rfl)) rfl
theorem wd_5_63 : (Jvm.Cond.code ({ cls := "PathDecoder$Spectrum", name := "weightOf", desc := "(I)I" } : Jvm.MethodName) prog_9_method_2_code (2 : Nat) (Option.some Jvm.ClassFile.FieldType.int)) ∈ pd_B := pd_in1 (tb_5 _ (List.mem_of_getElem? (i := 63) rfl)) rfl
theorem wd_5_64 : (Jvm.Cond.methodLink "PathDecoder$Spectrum" (38 : Nat) ({ cls := "java/lang/Integer", name := "bitCount", desc := "(I)I" } : Jvm.MethodName)) ∈ pd_B := pd_in1 (tb_5 _ (List.mem_of_getElem? (i := 64) rfl)) rfl
theorem wd_5_65 : (Jvm.Cond.methodLink "PathDecoder$Spectrum" (61 : Nat) ({ cls := "PathDecoder$Spectrum", name := "addIfFree", desc := "(I)V" } : Jvm.MethodName)) ∈ pd_B := pd_in1 (tb_5 _ (List.mem_of_getElem? (i := 65) rfl)) rfl
theorem wd_5_67 : (Jvm.Cond.instanceMethod ({ cls := "PathDecoder$Spectrum", name := "addIfFree", desc := "(I)V" } : Jvm.MethodName)) ∈ pd_B := pd_in1 (tb_5 _ (List.mem_of_getElem? (i := 67) rfl)) rfl
theorem wd_5_68 : (Jvm.Cond.code ({ cls := "PathDecoder$Spectrum", name := "addIfFree", desc := "(I)V" } : Jvm.MethodName) prog_9_method_5_code (2 : Nat) (Option.none : Option Jvm.ClassFile.FieldType)) ∈ pd_B := pd_in1 (tb_5 _ (List.mem_of_getElem? (i := 68) rfl)) rfl
theorem wd_5_69 : (Jvm.Cond.methodLink "PathDecoder" (327 : Nat) ({ cls := "PathDecoder$Spectrum", name := "isBad", desc := "()Z" } : Jvm.MethodName)) ∈ pd_B := pd_in1 (tb_5 _ (List.mem_of_getElem? (i := 69) rfl)) rfl
theorem wd_5_70 : (Jvm.Cond.instanceMethod ({ cls := "PathDecoder$Spectrum", name := "isBad", desc := "()Z" } : Jvm.MethodName)) ∈ pd_B := pd_in1 (tb_5 _ (List.mem_of_getElem? (i := 70) rfl)) rfl
theorem wd_5_71 : (Jvm.Cond.selects "PathDecoder$Spectrum" ({ cls := "PathDecoder$Spectrum", name := "isBad", desc := "()Z" } : Jvm.MethodName) ({ cls := "PathDecoder$Spectrum", name := "isBad", desc := "()Z" } : Jvm.MethodName)) ∈ pd_B := pd_in1 (tb_5 _ (List.mem_of_getElem? (i := 71) rfl)) rfl
theorem wd_5_72 : (Jvm.Cond.code ({ cls := "PathDecoder$Spectrum", name := "isBad", desc := "()Z" } : Jvm.MethodName) prog_9_method_6_code (1 : Nat) (Option.some Jvm.ClassFile.FieldType.boolean)) ∈ pd_B := pd_in1 (tb_5 _ (List.mem_of_getElem? (i := 72) rfl)) rfl
theorem wd_5_73 : (Jvm.Cond.methodLink "PathDecoderLaw" (182 : Nat) ({ cls := "PathDecoderLaw", name := "free", desc := "(LPathDecoder;I[J)I" } : Jvm.MethodName)) ∈ pd_B := pd_in1 (tb_5 _ (List.mem_of_getElem? (i := 73) rfl)) rfl
theorem wd_5_74 : (Jvm.Cond.static ({ cls := "PathDecoderLaw", name := "free", desc := "(LPathDecoder;I[J)I" } : Jvm.MethodName)) ∈ pd_B := pd_in1 (tb_5 _ (List.mem_of_getElem? (i := 74) rfl)) rfl
theorem wd_5_75 : (Jvm.Cond.codeWith ({ cls := "PathDecoderLaw", name := "free", desc := "(LPathDecoder;I[J)I" } : Jvm.MethodName) method_25_code (4 : Nat) (Option.some Jvm.ClassFile.FieldType.int) [((0 : Nat), (9 : Nat), (12 : Nat), (13 : Nat)), ((0 : Nat), (9 : Nat), (15 : Nat), (21 : Nat))]) ∈ pd_B := pd_in1 (tb_5 _ (List.mem_of_getElem? (i := 75) rfl)) rfl
theorem wd_5_76 : (Jvm.Cond.methodLink "PathDecoderLaw" (87 : Nat) ({ cls := "PathDecoder", name := "free", desc := "(I)I" } : Jvm.MethodName)) ∈ pd_B := pd_in1 (tb_5 _ (List.mem_of_getElem? (i := 76) rfl)) rfl
theorem wd_5_77 : (Jvm.Cond.instanceMethod ({ cls := "PathDecoder", name := "free", desc := "(I)I" } : Jvm.MethodName)) ∈ pd_B := pd_in1 (tb_5 _ (List.mem_of_getElem? (i := 77) rfl)) rfl
theorem wd_5_78 : (Jvm.Cond.selects "PathDecoder" ({ cls := "PathDecoder", name := "free", desc := "(I)I" } : Jvm.MethodName) ({ cls := "PathDecoder", name := "free", desc := "(I)I" } : Jvm.MethodName)) ∈ pd_B := pd_in1 (tb_5 _ (List.mem_of_getElem? (i := 78) rfl)) rfl
theorem wd_5_79 : (Jvm.Cond.code ({ cls := "PathDecoder", name := "free", desc := "(I)I" } : Jvm.MethodName) prog_1_method_25_code (2 : Nat) (Option.some Jvm.ClassFile.FieldType.int)) ∈ pd_B := pd_in1 (tb_5 _ (List.mem_of_getElem? (i := 79) rfl)) rfl
theorem wd_5_80 : (Jvm.Cond.methodLink "PathDecoder" (330 : Nat) ({ cls := "PathDecoder$Spectrum", name := "leastWeight", desc := "()I" } : Jvm.MethodName)) ∈ pd_B := pd_in1 (tb_5 _ (List.mem_of_getElem? (i := 80) rfl)) rfl
theorem wd_5_81 : (Jvm.Cond.instanceMethod ({ cls := "PathDecoder$Spectrum", name := "leastWeight", desc := "()I" } : Jvm.MethodName)) ∈ pd_B := pd_in1 (tb_5 _ (List.mem_of_getElem? (i := 81) rfl)) rfl
theorem wd_5_82 : (Jvm.Cond.selects "PathDecoder$Spectrum" ({ cls := "PathDecoder$Spectrum", name := "leastWeight", desc := "()I" } : Jvm.MethodName) ({ cls := "PathDecoder$Spectrum", name := "leastWeight", desc := "()I" } : Jvm.MethodName)) ∈ pd_B := pd_in1 (tb_5 _ (List.mem_of_getElem? (i := 82) rfl)) rfl
theorem wd_5_83 : (Jvm.Cond.code ({ cls := "PathDecoder$Spectrum", name := "leastWeight", desc := "()I" } : Jvm.MethodName) prog_9_method_7_code (6 : Nat) (Option.some Jvm.ClassFile.FieldType.int)) ∈ pd_B := pd_in1 (tb_5 _ (List.mem_of_getElem? (i := 83) rfl)) rfl
theorem wd_5_84 : (Jvm.Cond.constant "PathDecoder$Spectrum" (65 : Nat) (536870912 : Int32)) ∈ pd_B := pd_in1 (tb_5 _ (List.mem_of_getElem? (i := 84) rfl)) rfl
theorem wd_5_85 : (Jvm.Cond.methodLink "PathDecoder$Spectrum" (66 : Nat) ({ cls := "java/lang/Math", name := "min", desc := "(II)I" } : Jvm.MethodName)) ∈ pd_B := pd_in1 (tb_5 _ (List.mem_of_getElem? (i := 85) rfl)) rfl
theorem wd_5_86 : (Jvm.Cond.methodLink "PathDecoderLaw" (185 : Nat) ({ cls := "PathDecoderLaw", name := "weights", desc := "(LPathDecoder;II[J)I" } : Jvm.MethodName)) ∈ pd_B := pd_in1 (tb_5 _ (List.mem_of_getElem? (i := 86) rfl)) rfl
theorem wd_5_87 : (Jvm.Cond.static ({ cls := "PathDecoderLaw", name := "weights", desc := "(LPathDecoder;II[J)I" } : Jvm.MethodName)) ∈ pd_B := pd_in1 (tb_5 _ (List.mem_of_getElem? (i := 87) rfl)) rfl
theorem wd_5_88 : (Jvm.Cond.codeWith ({ cls := "PathDecoderLaw", name := "weights", desc := "(LPathDecoder;II[J)I" } : Jvm.MethodName) method_26_code (5 : Nat) (Option.some Jvm.ClassFile.FieldType.int) [((0 : Nat), (9 : Nat), (12 : Nat), (13 : Nat)), ((0 : Nat), (9 : Nat), (16 : Nat), (21 : Nat)), ((0 : Nat), (9 : Nat), (20 : Nat), (15 : Nat))]) ∈ pd_B := pd_in1 (tb_5 _ (List.mem_of_getElem? (i := 88) rfl)) rfl
theorem wd_5_89 : (Jvm.Cond.methodLink "PathDecoderLaw" (90 : Nat) ({ cls := "PathDecoder", name := "weights", desc := "(II)J" } : Jvm.MethodName)) ∈ pd_B := pd_in1 (tb_5 _ (List.mem_of_getElem? (i := 89) rfl)) rfl
theorem wd_5_90 : (Jvm.Cond.instanceMethod ({ cls := "PathDecoder", name := "weights", desc := "(II)J" } : Jvm.MethodName)) ∈ pd_B := pd_in1 (tb_5 _ (List.mem_of_getElem? (i := 90) rfl)) rfl
theorem wd_5_91 : (Jvm.Cond.selects "PathDecoder" ({ cls := "PathDecoder", name := "weights", desc := "(II)J" } : Jvm.MethodName) ({ cls := "PathDecoder", name := "weights", desc := "(II)J" } : Jvm.MethodName)) ∈ pd_B := pd_in1 (tb_5 _ (List.mem_of_getElem? (i := 91) rfl)) rfl
theorem wd_5_92 : (Jvm.Cond.code ({ cls := "PathDecoder", name := "weights", desc := "(II)J" } : Jvm.MethodName) prog_1_method_26_code (4 : Nat) (Option.some Jvm.ClassFile.FieldType.long)) ∈ pd_B := pd_in1 (tb_5 _ (List.mem_of_getElem? (i := 92) rfl)) rfl
theorem wd_5_94 : (Jvm.Cond.constantLong "PathDecoder" (335 : Nat) (-1 : Int64)) ∈ pd_B := pd_in1 (tb_5 _ (List.mem_of_getElem? (i := 94) rfl)) rfl
theorem wd_5_95 : (Jvm.Cond.methodLink "PathDecoder" (337 : Nat) ({ cls := "PathDecoder$Spectrum", name := "waysOfWeight", desc := "(I)J" } : Jvm.MethodName)) ∈ pd_B := pd_in1 (tb_5 _ (List.mem_of_getElem? (i := 95) rfl)) rfl
theorem wd_5_96 : (Jvm.Cond.instanceMethod ({ cls := "PathDecoder$Spectrum", name := "waysOfWeight", desc := "(I)J" } : Jvm.MethodName)) ∈ pd_B := pd_in1 (tb_5 _ (List.mem_of_getElem? (i := 96) rfl)) rfl
theorem wd_5_97 : (Jvm.Cond.selects "PathDecoder$Spectrum" ({ cls := "PathDecoder$Spectrum", name := "waysOfWeight", desc := "(I)J" } : Jvm.MethodName) ({ cls := "PathDecoder$Spectrum", name := "waysOfWeight", desc := "(I)J" } : Jvm.MethodName)) ∈ pd_B := pd_in1 (tb_5 _ (List.mem_of_getElem? (i := 97) rfl)) rfl
theorem wd_5_98 : (Jvm.Cond.code ({ cls := "PathDecoder$Spectrum", name := "waysOfWeight", desc := "(I)J" } : Jvm.MethodName) prog_9_method_8_code (4 : Nat) (Option.some Jvm.ClassFile.FieldType.long)) ∈ pd_B := pd_in1 (tb_5 _ (List.mem_of_getElem? (i := 98) rfl)) rfl
theorem wd_5_99 : (Jvm.Cond.methodLink "PathDecoder$Spectrum" (72 : Nat) ({ cls := "PathDecoder$Spectrum", name := "spread", desc := "(III)V" } : Jvm.MethodName)) ∈ pd_B := pd_in1 (tb_5 _ (List.mem_of_getElem? (i := 99) rfl)) rfl
theorem wd_5_101 : (Jvm.Cond.instanceMethod ({ cls := "PathDecoder$Spectrum", name := "spread", desc := "(III)V" } : Jvm.MethodName)) ∈ pd_B := pd_in1 (tb_5 _ (List.mem_of_getElem? (i := 101) rfl)) rfl
theorem wd_5_102 : (Jvm.Cond.code ({ cls := "PathDecoder$Spectrum", name := "spread", desc := "(III)V" } : Jvm.MethodName) prog_9_method_9_code (6 : Nat) (Option.none : Option Jvm.ClassFile.FieldType)) ∈ pd_B := pd_in1 (tb_5 _ (List.mem_of_getElem? (i := 102) rfl)) rfl
theorem wd_5_103 : (Jvm.Cond.methodLink "PathDecoderLaw" (188 : Nat) ({ cls := "PathDecoderLaw", name := "about", desc := "(LPathDecoder;II[J)I" } : Jvm.MethodName)) ∈ pd_B := pd_in1 (tb_5 _ (List.mem_of_getElem? (i := 103) rfl)) rfl
theorem wd_5_104 : (Jvm.Cond.static ({ cls := "PathDecoderLaw", name := "about", desc := "(LPathDecoder;II[J)I" } : Jvm.MethodName)) ∈ pd_B := pd_in1 (tb_5 _ (List.mem_of_getElem? (i := 104) rfl)) rfl
theorem wd_5_105 : (Jvm.Cond.codeWith ({ cls := "PathDecoderLaw", name := "about", desc := "(LPathDecoder;II[J)I" } : Jvm.MethodName) method_27_code (5 : Nat) (Option.some Jvm.ClassFile.FieldType.int) [((0 : Nat), (10 : Nat), (13 : Nat), (13 : Nat)), ((0 : Nat), (10 : Nat), (17 : Nat), (21 : Nat))]) ∈ pd_B := pd_in1 (tb_5 _ (List.mem_of_getElem? (i := 105) rfl)) rfl
theorem wd_5_106 : (Jvm.Cond.methodLink "PathDecoderLaw" (94 : Nat) ({ cls := "PathDecoder", name := "about", desc := "(II)I" } : Jvm.MethodName)) ∈ pd_B := pd_in1 (tb_5 _ (List.mem_of_getElem? (i := 106) rfl)) rfl
theorem wd_5_107 : (Jvm.Cond.instanceMethod ({ cls := "PathDecoder", name := "about", desc := "(II)I" } : Jvm.MethodName)) ∈ pd_B := pd_in1 (tb_5 _ (List.mem_of_getElem? (i := 107) rfl)) rfl
theorem wd_5_108 : (Jvm.Cond.selects "PathDecoder" ({ cls := "PathDecoder", name := "about", desc := "(II)I" } : Jvm.MethodName) ({ cls := "PathDecoder", name := "about", desc := "(II)I" } : Jvm.MethodName)) ∈ pd_B := pd_in1 (tb_5 _ (List.mem_of_getElem? (i := 108) rfl)) rfl
theorem wd_5_109 : (Jvm.Cond.code ({ cls := "PathDecoder", name := "about", desc := "(II)I" } : Jvm.MethodName) prog_1_method_27_code (4 : Nat) (Option.some Jvm.ClassFile.FieldType.int)) ∈ pd_B := pd_in1 (tb_5 _ (List.mem_of_getElem? (i := 109) rfl)) rfl
theorem wd_5_110 : (Jvm.Cond.methodLink "PathDecoder" (341 : Nat) ({ cls := "PathDecoder$Code", name := "states", desc := "()I" } : Jvm.MethodName)) ∈ pd_B := pd_in1 (tb_5 _ (List.mem_of_getElem? (i := 110) rfl)) rfl
theorem wd_5_111 : (Jvm.Cond.methodLink "PathDecoder" (344 : Nat) ({ cls := "PathDecoder$Code", name := "tapOrKeep", desc := "(I)I" } : Jvm.MethodName)) ∈ pd_B := pd_in1 (tb_5 _ (List.mem_of_getElem? (i := 111) rfl)) rfl
theorem wd_5_112 : (Jvm.Cond.instanceMethod ({ cls := "PathDecoder$Code", name := "tapOrKeep", desc := "(I)I" } : Jvm.MethodName)) ∈ pd_B := pd_in1 (tb_5 _ (List.mem_of_getElem? (i := 112) rfl)) rfl
theorem wd_5_113 : (Jvm.Cond.selects "PathDecoder$Code" ({ cls := "PathDecoder$Code", name := "tapOrKeep", desc := "(I)I" } : Jvm.MethodName) ({ cls := "PathDecoder$Code", name := "tapOrKeep", desc := "(I)I" } : Jvm.MethodName)) ∈ pd_B := pd_in1 (tb_5 _ (List.mem_of_getElem? (i := 113) rfl)) rfl
theorem wd_5_114 : (Jvm.Cond.code ({ cls := "PathDecoder$Code", name := "tapOrKeep", desc := "(I)I" } : Jvm.MethodName) prog_2_method_16_code (2 : Nat) (Option.some Jvm.ClassFile.FieldType.int)) ∈ pd_B := pd_in1 (tb_5 _ (List.mem_of_getElem? (i := 114) rfl)) rfl
theorem wd_5_115 : (Jvm.Cond.classLink "PathDecoder$Code" (71 : Nat) "java/util/NoSuchElementException") ∈ pd_B := pd_in1 (tb_5 _ (List.mem_of_getElem? (i := 115) rfl)) rfl
theorem wd_5_117 : (Jvm.Cond.methodLink "PathDecoder$Code" (75 : Nat) ({ cls := "java/util/NoSuchElementException", name := "<init>", desc := "(Ljava/lang/String;)V" } : Jvm.MethodName)) ∈ pd_B := pd_in1 (tb_5 _ (List.mem_of_getElem? (i := 117) rfl)) rfl
theorem wd_5_118 : (Jvm.Cond.classLink "PathDecoderLaw" (98 : Nat) "PathDecoderModel") ∈ pd_B := pd_in1 (tb_5 _ (List.mem_of_getElem? (i := 118) rfl)) rfl
theorem wd_5_119 : (Jvm.Cond.instantiable "PathDecoderModel" (44 : Nat)) ∈ pd_B := pd_in1 (tb_5 _ (List.mem_of_getElem? (i := 119) rfl)) rfl
theorem wd_5_120 : (Jvm.Cond.methodLink "PathDecoderLaw" (100 : Nat) ({ cls := "PathDecoderModel", name := "<init>", desc := "()V" } : Jvm.MethodName)) ∈ pd_B := pd_in1 (tb_5 _ (List.mem_of_getElem? (i := 120) rfl)) rfl
theorem wd_5_121 : (Jvm.Cond.instanceMethod ({ cls := "PathDecoderModel", name := "<init>", desc := "()V" } : Jvm.MethodName)) ∈ pd_B := pd_in1 (tb_5 _ (List.mem_of_getElem? (i := 121) rfl)) rfl
theorem wd_5_122 : (Jvm.Cond.code ({ cls := "PathDecoderModel", name := "<init>", desc := "()V" } : Jvm.MethodName) prog_14_method_1_code (2 : Nat) (Option.none : Option Jvm.ClassFile.FieldType)) ∈ pd_B := pd_in1 (tb_5 _ (List.mem_of_getElem? (i := 122) rfl)) rfl
theorem wd_5_123 : (Jvm.Cond.methodLink "PathDecoderModel" (1 : Nat) ({ cls := "java/lang/Object", name := "<init>", desc := "()V" } : Jvm.MethodName)) ∈ pd_B := pd_in1 (tb_5 _ (List.mem_of_getElem? (i := 123) rfl)) rfl
theorem wd_5_124 : (Jvm.Cond.constant "PathDecoderModel" (67 : Nat) (105472 : Int32)) ∈ pd_B := pd_in1 (tb_5 _ (List.mem_of_getElem? (i := 124) rfl)) rfl
theorem wd_5_125 : (Jvm.Cond.fieldLink "PathDecoderModel" (129 : Nat) "PathDecoderModel" "thrown" "I") ∈ pd_B := pd_in1 (tb_5 _ (List.mem_of_getElem? (i := 125) rfl)) rfl
theorem wd_5_126 : (Jvm.Cond.fieldLink "PathDecoderModel" (7 : Nat) "PathDecoderModel" "rowMany" "[I") ∈ pd_B := pd_in1 (tb_5 _ (List.mem_of_getElem? (i := 126) rfl)) rfl
theorem wd_5_127 : (Jvm.Cond.fieldLink "PathDecoderModel" (13 : Nat) "PathDecoderModel" "rows" "[I") ∈ pd_B := pd_in1 (tb_5 _ (List.mem_of_getElem? (i := 127) rfl)) rfl
theorem wd_5_128 : (Jvm.Cond.fieldLink "PathDecoderModel" (16 : Nat) "PathDecoderModel" "tableZero" "[I") ∈ pd_B := pd_in1 (tb_5 _ (List.mem_of_getElem? (i := 128) rfl)) rfl
theorem wd_5_129 : (Jvm.Cond.fieldLink "PathDecoderModel" (19 : Nat) "PathDecoderModel" "tableOne" "[I") ∈ pd_B := pd_in1 (tb_5 _ (List.mem_of_getElem? (i := 129) rfl)) rfl
theorem wd_5_130 : (Jvm.Cond.fieldLink "PathDecoderModel" (145 : Nat) "PathDecoderModel" "codes" "I") ∈ pd_B := pd_in1 (tb_5 _ (List.mem_of_getElem? (i := 130) rfl)) rfl
theorem wd_5_131 : (Jvm.Cond.fieldLink "PathDecoderModel" (22 : Nat) "PathDecoderModel" "kinds" "[I") ∈ pd_B := pd_in1 (tb_5 _ (List.mem_of_getElem? (i := 131) rfl)) rfl
theorem wd_5_132 : (Jvm.Cond.fieldLink "PathDecoderModel" (25 : Nat) "PathDecoderModel" "cells" "[I") ∈ pd_B := pd_in1 (tb_5 _ (List.mem_of_getElem? (i := 132) rfl)) rfl
theorem wd_5_133 : (Jvm.Cond.fieldLink "PathDecoderModel" (28 : Nat) "PathDecoderModel" "outs" "[I") ∈ pd_B := pd_in1 (tb_5 _ (List.mem_of_getElem? (i := 133) rfl)) rfl
theorem wd_5_134 : (Jvm.Cond.fieldLink "PathDecoderModel" (31 : Nat) "PathDecoderModel" "feeds" "[I") ∈ pd_B := pd_in1 (tb_5 _ (List.mem_of_getElem? (i := 134) rfl)) rfl
theorem wd_5_135 : (Jvm.Cond.fieldLink "PathDecoderModel" (34 : Nat) "PathDecoderModel" "periods" "[I") ∈ pd_B := pd_in1 (tb_5 _ (List.mem_of_getElem? (i := 135) rfl)) rfl
theorem wd_5_136 : (Jvm.Cond.fieldLink "PathDecoderModel" (37 : Nat) "PathDecoderModel" "strides" "[I") ∈ pd_B := pd_in1 (tb_5 _ (List.mem_of_getElem? (i := 136) rfl)) rfl
theorem wd_5_137 : (Jvm.Cond.fieldLink "PathDecoderModel" (40 : Nat) "PathDecoderModel" "taps" "[I") ∈ pd_B := pd_in1 (tb_5 _ (List.mem_of_getElem? (i := 137) rfl)) rfl
theorem wd_5_138 : (Jvm.Cond.fieldLink "PathDecoderModel" (43 : Nat) "PathDecoderModel" "keeps" "[I") ∈ pd_B := pd_in1 (tb_5 _ (List.mem_of_getElem? (i := 138) rfl)) rfl
theorem wd_5_139 : (Jvm.Cond.fieldLink "PathDecoderModel" (222 : Nat) "PathDecoderModel" "ways" "I") ∈ pd_B := pd_in1 (tb_5 _ (List.mem_of_getElem? (i := 139) rfl)) rfl
theorem wd_5_140 : (Jvm.Cond.fieldLink "PathDecoderModel" (46 : Nat) "PathDecoderModel" "wayBits" "[I") ∈ pd_B := pd_in1 (tb_5 _ (List.mem_of_getElem? (i := 140) rfl)) rfl
theorem wd_5_141 : (Jvm.Cond.fieldLink "PathDecoderModel" (49 : Nat) "PathDecoderModel" "wayCost" "[I") ∈ pd_B := pd_in1 (tb_5 _ (List.mem_of_getElem? (i := 141) rfl)) rfl
theorem wd_5_142 : (Jvm.Cond.fieldLink "PathDecoderModel" (52 : Nat) "PathDecoderModel" "wayBegin" "[I") ∈ pd_B := pd_in1 (tb_5 _ (List.mem_of_getElem? (i := 142) rfl)) rfl
theorem wd_5_143 : (Jvm.Cond.fieldLink "PathDecoderModel" (55 : Nat) "PathDecoderModel" "wayMany" "[I") ∈ pd_B := pd_in1 (tb_5 _ (List.mem_of_getElem? (i := 143) rfl)) rfl
theorem wd_5_144 : (Jvm.Cond.fieldLink "PathDecoderModel" (268 : Nat) "PathDecoderModel" "told" "I") ∈ pd_B := pd_in1 (tb_5 _ (List.mem_of_getElem? (i := 144) rfl)) rfl
theorem wd_5_145 : (Jvm.Cond.fieldLink "PathDecoderModel" (58 : Nat) "PathDecoderModel" "each" "[I") ∈ pd_B := pd_in1 (tb_5 _ (List.mem_of_getElem? (i := 145) rfl)) rfl
theorem wd_5_146 : (Jvm.Cond.fieldLink "PathDecoderModel" (281 : Nat) "PathDecoderModel" "agreed" "Z") ∈ pd_B := pd_in1 (tb_5 _ (List.mem_of_getElem? (i := 146) rfl)) rfl
theorem wd_5_147 : (Jvm.Cond.fieldLink "PathDecoderModel" (61 : Nat) "PathDecoderModel" "stepCost" "[I") ∈ pd_B := pd_in1 (tb_5 _ (List.mem_of_getElem? (i := 147) rfl)) rfl
theorem wd_5_148 : (Jvm.Cond.fieldLink "PathDecoderModel" (64 : Nat) "PathDecoderModel" "restMany" "[I") ∈ pd_B := pd_in1 (tb_5 _ (List.mem_of_getElem? (i := 148) rfl)) rfl
theorem wd_5_149 : (Jvm.Cond.fieldLink "PathDecoderModel" (68 : Nat) "PathDecoderModel" "restCost" "[I") ∈ pd_B := pd_in1 (tb_5 _ (List.mem_of_getElem? (i := 149) rfl)) rfl
theorem wd_5_150 : (Jvm.Cond.fieldLink "PathDecoderModel" (71 : Nat) "PathDecoderModel" "restBit" "[I") ∈ pd_B := pd_in1 (tb_5 _ (List.mem_of_getElem? (i := 150) rfl)) rfl
theorem wd_5_151 : (Jvm.Cond.fieldLink "PathDecoderModel" (74 : Nat) "PathDecoderModel" "restRank" "[I") ∈ pd_B := pd_in1 (tb_5 _ (List.mem_of_getElem? (i := 151) rfl)) rfl
theorem wd_5_152 : (Jvm.Cond.fieldLink "PathDecoderModel" (77 : Nat) "PathDecoderModel" "ahead" "[I") ∈ pd_B := pd_in1 (tb_5 _ (List.mem_of_getElem? (i := 152) rfl)) rfl
theorem wd_5_153 : (Jvm.Cond.fieldLink "PathDecoderModel" (80 : Nat) "PathDecoderModel" "behind" "[I") ∈ pd_B := pd_in1 (tb_5 _ (List.mem_of_getElem? (i := 153) rfl)) rfl
theorem wd_5_154 : (Jvm.Cond.fieldLink "PathDecoderModel" (83 : Nat) "PathDecoderModel" "zeroLeast" "[I") ∈ pd_B := pd_in1 (tb_5 _ (List.mem_of_getElem? (i := 154) rfl)) rfl
theorem wd_5_155 : (Jvm.Cond.fieldLink "PathDecoderModel" (86 : Nat) "PathDecoderModel" "oneLeast" "[I") ∈ pd_B := pd_in1 (tb_5 _ (List.mem_of_getElem? (i := 155) rfl)) rfl
theorem wd_5_156 : (Jvm.Cond.fieldLink "PathDecoderModel" (89 : Nat) "PathDecoderModel" "sentBits" "[I") ∈ pd_B := pd_in1 (tb_5 _ (List.mem_of_getElem? (i := 156) rfl)) rfl
theorem wd_5_157 : (Jvm.Cond.fieldLink "PathDecoderModel" (92 : Nat) "PathDecoderModel" "message" "[I") ∈ pd_B := pd_in1 (tb_5 _ (List.mem_of_getElem? (i := 157) rfl)) rfl
theorem wd_5_158 : (Jvm.Cond.fieldLink "PathDecoderModel" (95 : Nat) "PathDecoderModel" "news" "[I") ∈ pd_B := pd_in1 (tb_5 _ (List.mem_of_getElem? (i := 158) rfl)) rfl
theorem wd_5_159 : (Jvm.Cond.fieldLink "PathDecoderModel" (98 : Nat) "PathDecoderModel" "systematic" "[I") ∈ pd_B := pd_in1 (tb_5 _ (List.mem_of_getElem? (i := 159) rfl)) rfl
theorem wd_5_160 : (Jvm.Cond.fieldLink "PathDecoderModel" (101 : Nat) "PathDecoderModel" "firstSeems" "[I") ∈ pd_B := pd_in1 (tb_5 _ (List.mem_of_getElem? (i := 160) rfl)) rfl
theorem wd_5_161 : (Jvm.Cond.fieldLink "PathDecoderModel" (104 : Nat) "PathDecoderModel" "keptCost" "[I") ∈ pd_B := pd_in1 (tb_5 _ (List.mem_of_getElem? (i := 161) rfl)) rfl
theorem wd_5_162 : (Jvm.Cond.fieldLink "PathDecoderModel" (107 : Nat) "PathDecoderModel" "nextCost" "[I") ∈ pd_B := pd_in1 (tb_5 _ (List.mem_of_getElem? (i := 162) rfl)) rfl
theorem wd_5_163 : (Jvm.Cond.fieldLink "PathDecoderModel" (110 : Nat) "PathDecoderModel" "origin" "[I") ∈ pd_B := pd_in1 (tb_5 _ (List.mem_of_getElem? (i := 163) rfl)) rfl
theorem wd_5_164 : (Jvm.Cond.fieldLink "PathDecoderModel" (113 : Nat) "PathDecoderModel" "originBit" "[I") ∈ pd_B := pd_in1 (tb_5 _ (List.mem_of_getElem? (i := 164) rfl)) rfl
theorem wd_5_165 : (Jvm.Cond.fieldLink "PathDecoderModel" (116 : Nat) "PathDecoderModel" "spare" "[I") ∈ pd_B := pd_in1 (tb_5 _ (List.mem_of_getElem? (i := 165) rfl)) rfl
theorem wd_5_166 : (Jvm.Cond.fieldLink "PathDecoderModel" (119 : Nat) "PathDecoderModel" "counts" "[J") ∈ pd_B := pd_in1 (tb_5 _ (List.mem_of_getElem? (i := 166) rfl)) rfl
theorem wd_5_167 : (Jvm.Cond.fieldLink "PathDecoderModel" (123 : Nat) "PathDecoderModel" "flow" "[J") ∈ pd_B := pd_in1 (tb_5 _ (List.mem_of_getElem? (i := 167) rfl)) rfl
theorem wd_5_168 : (Jvm.Cond.fieldLink "PathDecoderModel" (126 : Nat) "PathDecoderModel" "flowing" "[J") ∈ pd_B := pd_in1 (tb_5 _ (List.mem_of_getElem? (i := 168) rfl)) rfl
theorem wd_5_169 : (Jvm.Cond.lays "PathDecoderModel" "PathDecoderModel" "thrown" "I") ∈ pd_B := pd_in1 (tb_5 _ (List.mem_of_getElem? (i := 169) rfl)) rfl
theorem wd_5_171 : (Jvm.Cond.laysFinal "PathDecoderModel" "PathDecoderModel" "rowMany" "[I") ∈ pd_B := pd_in1 (tb_5 _ (List.mem_of_getElem? (i := 171) rfl)) rfl
theorem wd_5_173 : (Jvm.Cond.laysFinal "PathDecoderModel" "PathDecoderModel" "rows" "[I") ∈ pd_B := pd_in1 (tb_5 _ (List.mem_of_getElem? (i := 173) rfl)) rfl
theorem wd_5_175 : (Jvm.Cond.laysFinal "PathDecoderModel" "PathDecoderModel" "tableZero" "[I") ∈ pd_B := pd_in1 (tb_5 _ (List.mem_of_getElem? (i := 175) rfl)) rfl
theorem wd_5_177 : (Jvm.Cond.laysFinal "PathDecoderModel" "PathDecoderModel" "tableOne" "[I") ∈ pd_B := pd_in1 (tb_5 _ (List.mem_of_getElem? (i := 177) rfl)) rfl
theorem wd_5_179 : (Jvm.Cond.lays "PathDecoderModel" "PathDecoderModel" "codes" "I") ∈ pd_B := pd_in1 (tb_5 _ (List.mem_of_getElem? (i := 179) rfl)) rfl
theorem wd_5_181 : (Jvm.Cond.laysFinal "PathDecoderModel" "PathDecoderModel" "kinds" "[I") ∈ pd_B := pd_in1 (tb_5 _ (List.mem_of_getElem? (i := 181) rfl)) rfl
theorem wd_5_183 : (Jvm.Cond.laysFinal "PathDecoderModel" "PathDecoderModel" "cells" "[I") ∈ pd_B := pd_in1 (tb_5 _ (List.mem_of_getElem? (i := 183) rfl)) rfl
theorem wd_5_185 : (Jvm.Cond.laysFinal "PathDecoderModel" "PathDecoderModel" "outs" "[I") ∈ pd_B := pd_in1 (tb_5 _ (List.mem_of_getElem? (i := 185) rfl)) rfl
theorem wd_5_187 : (Jvm.Cond.laysFinal "PathDecoderModel" "PathDecoderModel" "feeds" "[I") ∈ pd_B := pd_in1 (tb_5 _ (List.mem_of_getElem? (i := 187) rfl)) rfl
theorem wd_5_189 : (Jvm.Cond.laysFinal "PathDecoderModel" "PathDecoderModel" "periods" "[I") ∈ pd_B := pd_in1 (tb_5 _ (List.mem_of_getElem? (i := 189) rfl)) rfl
theorem wd_5_191 : (Jvm.Cond.laysFinal "PathDecoderModel" "PathDecoderModel" "strides" "[I") ∈ pd_B := pd_in1 (tb_5 _ (List.mem_of_getElem? (i := 191) rfl)) rfl
theorem wd_5_193 : (Jvm.Cond.laysFinal "PathDecoderModel" "PathDecoderModel" "taps" "[I") ∈ pd_B := pd_in1 (tb_5 _ (List.mem_of_getElem? (i := 193) rfl)) rfl
theorem wd_5_195 : (Jvm.Cond.laysFinal "PathDecoderModel" "PathDecoderModel" "keeps" "[I") ∈ pd_B := pd_in1 (tb_5 _ (List.mem_of_getElem? (i := 195) rfl)) rfl
theorem wd_5_197 : (Jvm.Cond.lays "PathDecoderModel" "PathDecoderModel" "ways" "I") ∈ pd_B := pd_in1 (tb_5 _ (List.mem_of_getElem? (i := 197) rfl)) rfl
theorem wd_5_199 : (Jvm.Cond.laysFinal "PathDecoderModel" "PathDecoderModel" "wayBits" "[I") ∈ pd_B := pd_in1 (tb_5 _ (List.mem_of_getElem? (i := 199) rfl)) rfl
theorem wd_5_201 : (Jvm.Cond.laysFinal "PathDecoderModel" "PathDecoderModel" "wayCost" "[I") ∈ pd_B := pd_in1 (tb_5 _ (List.mem_of_getElem? (i := 201) rfl)) rfl
theorem wd_5_203 : (Jvm.Cond.laysFinal "PathDecoderModel" "PathDecoderModel" "wayBegin" "[I") ∈ pd_B := pd_in1 (tb_5 _ (List.mem_of_getElem? (i := 203) rfl)) rfl
theorem wd_5_205 : (Jvm.Cond.laysFinal "PathDecoderModel" "PathDecoderModel" "wayMany" "[I") ∈ pd_B := pd_in1 (tb_5 _ (List.mem_of_getElem? (i := 205) rfl)) rfl
theorem wd_5_207 : (Jvm.Cond.lays "PathDecoderModel" "PathDecoderModel" "told" "I") ∈ pd_B := pd_in1 (tb_5 _ (List.mem_of_getElem? (i := 207) rfl)) rfl
theorem wd_5_209 : (Jvm.Cond.laysFinal "PathDecoderModel" "PathDecoderModel" "each" "[I") ∈ pd_B := pd_in1 (tb_5 _ (List.mem_of_getElem? (i := 209) rfl)) rfl
theorem wd_5_211 : (Jvm.Cond.lays "PathDecoderModel" "PathDecoderModel" "agreed" "Z") ∈ pd_B := pd_in1 (tb_5 _ (List.mem_of_getElem? (i := 211) rfl)) rfl
theorem wd_5_213 : (Jvm.Cond.laysFinal "PathDecoderModel" "PathDecoderModel" "stepCost" "[I") ∈ pd_B := pd_in1 (tb_5 _ (List.mem_of_getElem? (i := 213) rfl)) rfl
theorem wd_5_215 : (Jvm.Cond.laysFinal "PathDecoderModel" "PathDecoderModel" "restMany" "[I") ∈ pd_B := pd_in1 (tb_5 _ (List.mem_of_getElem? (i := 215) rfl)) rfl
theorem wd_5_217 : (Jvm.Cond.laysFinal "PathDecoderModel" "PathDecoderModel" "restCost" "[I") ∈ pd_B := pd_in1 (tb_5 _ (List.mem_of_getElem? (i := 217) rfl)) rfl
theorem wd_5_219 : (Jvm.Cond.laysFinal "PathDecoderModel" "PathDecoderModel" "restBit" "[I") ∈ pd_B := pd_in1 (tb_5 _ (List.mem_of_getElem? (i := 219) rfl)) rfl
theorem wd_5_221 : (Jvm.Cond.laysFinal "PathDecoderModel" "PathDecoderModel" "restRank" "[I") ∈ pd_B := pd_in1 (tb_5 _ (List.mem_of_getElem? (i := 221) rfl)) rfl
theorem wd_5_223 : (Jvm.Cond.laysFinal "PathDecoderModel" "PathDecoderModel" "ahead" "[I") ∈ pd_B := pd_in1 (tb_5 _ (List.mem_of_getElem? (i := 223) rfl)) rfl
theorem wd_5_225 : (Jvm.Cond.laysFinal "PathDecoderModel" "PathDecoderModel" "behind" "[I") ∈ pd_B := pd_in1 (tb_5 _ (List.mem_of_getElem? (i := 225) rfl)) rfl
theorem wd_5_227 : (Jvm.Cond.laysFinal "PathDecoderModel" "PathDecoderModel" "zeroLeast" "[I") ∈ pd_B := pd_in1 (tb_5 _ (List.mem_of_getElem? (i := 227) rfl)) rfl
theorem wd_5_229 : (Jvm.Cond.laysFinal "PathDecoderModel" "PathDecoderModel" "oneLeast" "[I") ∈ pd_B := pd_in1 (tb_5 _ (List.mem_of_getElem? (i := 229) rfl)) rfl
theorem wd_5_231 : (Jvm.Cond.laysFinal "PathDecoderModel" "PathDecoderModel" "sentBits" "[I") ∈ pd_B := pd_in1 (tb_5 _ (List.mem_of_getElem? (i := 231) rfl)) rfl
theorem wd_5_233 : (Jvm.Cond.laysFinal "PathDecoderModel" "PathDecoderModel" "message" "[I") ∈ pd_B := pd_in1 (tb_5 _ (List.mem_of_getElem? (i := 233) rfl)) rfl
theorem wd_5_235 : (Jvm.Cond.laysFinal "PathDecoderModel" "PathDecoderModel" "news" "[I") ∈ pd_B := pd_in1 (tb_5 _ (List.mem_of_getElem? (i := 235) rfl)) rfl
theorem wd_5_237 : (Jvm.Cond.laysFinal "PathDecoderModel" "PathDecoderModel" "systematic" "[I") ∈ pd_B := pd_in1 (tb_5 _ (List.mem_of_getElem? (i := 237) rfl)) rfl
theorem wd_5_239 : (Jvm.Cond.laysFinal "PathDecoderModel" "PathDecoderModel" "firstSeems" "[I") ∈ pd_B := pd_in1 (tb_5 _ (List.mem_of_getElem? (i := 239) rfl)) rfl
theorem wd_6_1 : (Jvm.Cond.laysFinal "PathDecoderModel" "PathDecoderModel" "keptCost" "[I") ∈ pd_B := pd_in1 (tb_6 _ (List.mem_of_getElem? (i := 1) rfl)) rfl
theorem wd_6_3 : (Jvm.Cond.laysFinal "PathDecoderModel" "PathDecoderModel" "nextCost" "[I") ∈ pd_B := pd_in1 (tb_6 _ (List.mem_of_getElem? (i := 3) rfl)) rfl
theorem wd_6_5 : (Jvm.Cond.laysFinal "PathDecoderModel" "PathDecoderModel" "origin" "[I") ∈ pd_B := pd_in1 (tb_6 _ (List.mem_of_getElem? (i := 5) rfl)) rfl
theorem wd_6_7 : (Jvm.Cond.laysFinal "PathDecoderModel" "PathDecoderModel" "originBit" "[I") ∈ pd_B := pd_in1 (tb_6 _ (List.mem_of_getElem? (i := 7) rfl)) rfl
theorem wd_6_9 : (Jvm.Cond.laysFinal "PathDecoderModel" "PathDecoderModel" "spare" "[I") ∈ pd_B := pd_in1 (tb_6 _ (List.mem_of_getElem? (i := 9) rfl)) rfl
theorem wd_6_11 : (Jvm.Cond.laysFinal "PathDecoderModel" "PathDecoderModel" "counts" "[J") ∈ pd_B := pd_in1 (tb_6 _ (List.mem_of_getElem? (i := 11) rfl)) rfl
theorem wd_6_13 : (Jvm.Cond.laysFinal "PathDecoderModel" "PathDecoderModel" "flow" "[J") ∈ pd_B := pd_in1 (tb_6 _ (List.mem_of_getElem? (i := 13) rfl)) rfl
theorem wd_6_15 : (Jvm.Cond.laysFinal "PathDecoderModel" "PathDecoderModel" "flowing" "[J") ∈ pd_B := pd_in1 (tb_6 _ (List.mem_of_getElem? (i := 15) rfl)) rfl
theorem wd_6_18 : (Jvm.Cond.methodLink "PathDecoderLaw" (107 : Nat) ({ cls := "PathDecoderModel", name := "thrown", desc := "()I" } : Jvm.MethodName)) ∈ pd_B := pd_in1 (tb_6 _ (List.mem_of_getElem? (i := 18) rfl)) rfl
theorem wd_6_19 : (Jvm.Cond.instanceMethod ({ cls := "PathDecoderModel", name := "thrown", desc := "()I" } : Jvm.MethodName)) ∈ pd_B := pd_in1 (tb_6 _ (List.mem_of_getElem? (i := 19) rfl)) rfl
theorem wd_6_20 : (Jvm.Cond.selects "PathDecoderModel" ({ cls := "PathDecoderModel", name := "thrown", desc := "()I" } : Jvm.MethodName) ({ cls := "PathDecoderModel", name := "thrown", desc := "()I" } : Jvm.MethodName)) ∈ pd_B := pd_in1 (tb_6 _ (List.mem_of_getElem? (i := 20) rfl)) rfl
theorem wd_6_21 : (Jvm.Cond.code ({ cls := "PathDecoderModel", name := "thrown", desc := "()I" } : Jvm.MethodName) prog_14_method_2_code (1 : Nat) (Option.some Jvm.ClassFile.FieldType.int)) ∈ pd_B := pd_in1 (tb_6 _ (List.mem_of_getElem? (i := 21) rfl)) rfl
theorem wd_6_22 : (Jvm.Cond.methodLink "PathDecoderLaw" (106 : Nat) ({ cls := "PathDecoderModel", name := "row", desc := "(II)Z" } : Jvm.MethodName)) ∈ pd_B := pd_in1 (tb_6 _ (List.mem_of_getElem? (i := 22) rfl)) rfl
theorem wd_6_23 : (Jvm.Cond.instanceMethod ({ cls := "PathDecoderModel", name := "row", desc := "(II)Z" } : Jvm.MethodName)) ∈ pd_B := pd_in1 (tb_6 _ (List.mem_of_getElem? (i := 23) rfl)) rfl
theorem wd_6_24 : (Jvm.Cond.selects "PathDecoderModel" ({ cls := "PathDecoderModel", name := "row", desc := "(II)Z" } : Jvm.MethodName) ({ cls := "PathDecoderModel", name := "row", desc := "(II)Z" } : Jvm.MethodName)) ∈ pd_B := pd_in1 (tb_6 _ (List.mem_of_getElem? (i := 24) rfl)) rfl
theorem wd_6_25 : (Jvm.Cond.code ({ cls := "PathDecoderModel", name := "row", desc := "(II)Z" } : Jvm.MethodName) prog_14_method_5_code (5 : Nat) (Option.some Jvm.ClassFile.FieldType.boolean)) ∈ pd_B := pd_in1 (tb_6 _ (List.mem_of_getElem? (i := 25) rfl)) rfl
theorem wd_6_26 : (Jvm.Cond.methodLink "PathDecoderModel" (137 : Nat) ({ cls := "PathDecoderModel", name := "isRow", desc := "(II)Z" } : Jvm.MethodName)) ∈ pd_B := pd_in1 (tb_6 _ (List.mem_of_getElem? (i := 26) rfl)) rfl
theorem wd_6_28 : (Jvm.Cond.instanceMethod ({ cls := "PathDecoderModel", name := "isRow", desc := "(II)Z" } : Jvm.MethodName)) ∈ pd_B := pd_in1 (tb_6 _ (List.mem_of_getElem? (i := 28) rfl)) rfl
theorem wd_6_29 : (Jvm.Cond.code ({ cls := "PathDecoderModel", name := "isRow", desc := "(II)Z" } : Jvm.MethodName) prog_14_method_4_code (3 : Nat) (Option.some Jvm.ClassFile.FieldType.boolean)) ∈ pd_B := pd_in1 (tb_6 _ (List.mem_of_getElem? (i := 29) rfl)) rfl
theorem wd_6_30 : (Jvm.Cond.methodLink "PathDecoderModel" (133 : Nat) ({ cls := "PathDecoderModel", name := "right", desc := "(ZI)Z" } : Jvm.MethodName)) ∈ pd_B := pd_in1 (tb_6 _ (List.mem_of_getElem? (i := 30) rfl)) rfl
theorem wd_6_32 : (Jvm.Cond.instanceMethod ({ cls := "PathDecoderModel", name := "right", desc := "(ZI)Z" } : Jvm.MethodName)) ∈ pd_B := pd_in1 (tb_6 _ (List.mem_of_getElem? (i := 32) rfl)) rfl
theorem wd_6_33 : (Jvm.Cond.code ({ cls := "PathDecoderModel", name := "right", desc := "(ZI)Z" } : Jvm.MethodName) prog_14_method_3_code (3 : Nat) (Option.some Jvm.ClassFile.FieldType.boolean)) ∈ pd_B := pd_in1 (tb_6 _ (List.mem_of_getElem? (i := 33) rfl)) rfl
theorem wd_6_34 : (Jvm.Cond.methodLink "PathDecoderLaw" (114 : Nat) ({ cls := "PathDecoderModel", name := "put", desc := "(III)I" } : Jvm.MethodName)) ∈ pd_B := pd_in1 (tb_6 _ (List.mem_of_getElem? (i := 34) rfl)) rfl
theorem wd_6_35 : (Jvm.Cond.instanceMethod ({ cls := "PathDecoderModel", name := "put", desc := "(III)I" } : Jvm.MethodName)) ∈ pd_B := pd_in1 (tb_6 _ (List.mem_of_getElem? (i := 35) rfl)) rfl
theorem wd_6_36 : (Jvm.Cond.selects "PathDecoderModel" ({ cls := "PathDecoderModel", name := "put", desc := "(III)I" } : Jvm.MethodName) ({ cls := "PathDecoderModel", name := "put", desc := "(III)I" } : Jvm.MethodName)) ∈ pd_B := pd_in1 (tb_6 _ (List.mem_of_getElem? (i := 36) rfl)) rfl
theorem wd_6_37 : (Jvm.Cond.code ({ cls := "PathDecoderModel", name := "put", desc := "(III)I" } : Jvm.MethodName) prog_14_method_7_code (5 : Nat) (Option.some Jvm.ClassFile.FieldType.int)) ∈ pd_B := pd_in1 (tb_6 _ (List.mem_of_getElem? (i := 37) rfl)) rfl
theorem wd_6_38 : (Jvm.Cond.methodLink "PathDecoderModel" (141 : Nat) ({ cls := "PathDecoderModel", name := "isMark", desc := "(I)Z" } : Jvm.MethodName)) ∈ pd_B := pd_in1 (tb_6 _ (List.mem_of_getElem? (i := 38) rfl)) rfl
theorem wd_6_39 : (Jvm.Cond.static ({ cls := "PathDecoderModel", name := "isMark", desc := "(I)Z" } : Jvm.MethodName)) ∈ pd_B := pd_in1 (tb_6 _ (List.mem_of_getElem? (i := 39) rfl)) rfl
theorem wd_6_40 : (Jvm.Cond.code ({ cls := "PathDecoderModel", name := "isMark", desc := "(I)Z" } : Jvm.MethodName) prog_14_method_6_code (1 : Nat) (Option.some Jvm.ClassFile.FieldType.boolean)) ∈ pd_B := pd_in1 (tb_6 _ (List.mem_of_getElem? (i := 40) rfl)) rfl
theorem wd_6_41 : (Jvm.Cond.methodLink "PathDecoderLaw" (118 : Nat) ({ cls := "PathDecoderModel", name := "five", desc := "(IIII)I" } : Jvm.MethodName)) ∈ pd_B := pd_in1 (tb_6 _ (List.mem_of_getElem? (i := 41) rfl)) rfl
theorem wd_6_42 : (Jvm.Cond.instanceMethod ({ cls := "PathDecoderModel", name := "five", desc := "(IIII)I" } : Jvm.MethodName)) ∈ pd_B := pd_in1 (tb_6 _ (List.mem_of_getElem? (i := 42) rfl)) rfl
theorem wd_6_43 : (Jvm.Cond.selects "PathDecoderModel" ({ cls := "PathDecoderModel", name := "five", desc := "(IIII)I" } : Jvm.MethodName) ({ cls := "PathDecoderModel", name := "five", desc := "(IIII)I" } : Jvm.MethodName)) ∈ pd_B := pd_in1 (tb_6 _ (List.mem_of_getElem? (i := 43) rfl)) rfl
theorem wd_6_44 : (Jvm.Cond.code ({ cls := "PathDecoderModel", name := "five", desc := "(IIII)I" } : Jvm.MethodName) prog_14_method_8_code (10 : Nat) (Option.some Jvm.ClassFile.FieldType.int)) ∈ pd_B := pd_in1 (tb_6 _ (List.mem_of_getElem? (i := 44) rfl)) rfl
theorem wd_6_45 : (Jvm.Cond.methodLink "PathDecoderLaw" (121 : Nat) ({ cls := "PathDecoderModel", name := "at", desc := "(II)I" } : Jvm.MethodName)) ∈ pd_B := pd_in1 (tb_6 _ (List.mem_of_getElem? (i := 45) rfl)) rfl
theorem wd_6_46 : (Jvm.Cond.instanceMethod ({ cls := "PathDecoderModel", name := "at", desc := "(II)I" } : Jvm.MethodName)) ∈ pd_B := pd_in1 (tb_6 _ (List.mem_of_getElem? (i := 46) rfl)) rfl
theorem wd_6_47 : (Jvm.Cond.selects "PathDecoderModel" ({ cls := "PathDecoderModel", name := "at", desc := "(II)I" } : Jvm.MethodName) ({ cls := "PathDecoderModel", name := "at", desc := "(II)I" } : Jvm.MethodName)) ∈ pd_B := pd_in1 (tb_6 _ (List.mem_of_getElem? (i := 47) rfl)) rfl
theorem wd_6_48 : (Jvm.Cond.code ({ cls := "PathDecoderModel", name := "at", desc := "(II)I" } : Jvm.MethodName) prog_14_method_9_code (3 : Nat) (Option.some Jvm.ClassFile.FieldType.int)) ∈ pd_B := pd_in1 (tb_6 _ (List.mem_of_getElem? (i := 48) rfl)) rfl
theorem wd_6_49 : (Jvm.Cond.methodLink "PathDecoderLaw" (124 : Nat) ({ cls := "PathDecoderModel", name := "tear", desc := "(II)I" } : Jvm.MethodName)) ∈ pd_B := pd_in1 (tb_6 _ (List.mem_of_getElem? (i := 49) rfl)) rfl
theorem wd_6_50 : (Jvm.Cond.instanceMethod ({ cls := "PathDecoderModel", name := "tear", desc := "(II)I" } : Jvm.MethodName)) ∈ pd_B := pd_in1 (tb_6 _ (List.mem_of_getElem? (i := 50) rfl)) rfl
theorem wd_6_51 : (Jvm.Cond.selects "PathDecoderModel" ({ cls := "PathDecoderModel", name := "tear", desc := "(II)I" } : Jvm.MethodName) ({ cls := "PathDecoderModel", name := "tear", desc := "(II)I" } : Jvm.MethodName)) ∈ pd_B := pd_in1 (tb_6 _ (List.mem_of_getElem? (i := 51) rfl)) rfl
theorem wd_6_52 : (Jvm.Cond.code ({ cls := "PathDecoderModel", name := "tear", desc := "(II)I" } : Jvm.MethodName) prog_14_method_10_code (4 : Nat) (Option.some Jvm.ClassFile.FieldType.int)) ∈ pd_B := pd_in1 (tb_6 _ (List.mem_of_getElem? (i := 52) rfl)) rfl
theorem wd_6_53 : (Jvm.Cond.methodLink "PathDecoderLaw" (127 : Nat) ({ cls := "PathDecoderModel", name := "noise", desc := "(III)I" } : Jvm.MethodName)) ∈ pd_B := pd_in1 (tb_6 _ (List.mem_of_getElem? (i := 53) rfl)) rfl
theorem wd_6_54 : (Jvm.Cond.instanceMethod ({ cls := "PathDecoderModel", name := "noise", desc := "(III)I" } : Jvm.MethodName)) ∈ pd_B := pd_in1 (tb_6 _ (List.mem_of_getElem? (i := 54) rfl)) rfl
theorem wd_6_55 : (Jvm.Cond.selects "PathDecoderModel" ({ cls := "PathDecoderModel", name := "noise", desc := "(III)I" } : Jvm.MethodName) ({ cls := "PathDecoderModel", name := "noise", desc := "(III)I" } : Jvm.MethodName)) ∈ pd_B := pd_in1 (tb_6 _ (List.mem_of_getElem? (i := 55) rfl)) rfl
theorem wd_6_56 : (Jvm.Cond.code ({ cls := "PathDecoderModel", name := "noise", desc := "(III)I" } : Jvm.MethodName) prog_14_method_11_code (5 : Nat) (Option.some Jvm.ClassFile.FieldType.int)) ∈ pd_B := pd_in1 (tb_6 _ (List.mem_of_getElem? (i := 56) rfl)) rfl
theorem wd_6_57 : (Jvm.Cond.methodLink "PathDecoderLaw" (130 : Nat) ({ cls := "PathDecoderModel", name := "code", desc := "(III)I" } : Jvm.MethodName)) ∈ pd_B := pd_in1 (tb_6 _ (List.mem_of_getElem? (i := 57) rfl)) rfl
theorem wd_6_58 : (Jvm.Cond.instanceMethod ({ cls := "PathDecoderModel", name := "code", desc := "(III)I" } : Jvm.MethodName)) ∈ pd_B := pd_in1 (tb_6 _ (List.mem_of_getElem? (i := 58) rfl)) rfl
theorem wd_6_59 : (Jvm.Cond.selects "PathDecoderModel" ({ cls := "PathDecoderModel", name := "code", desc := "(III)I" } : Jvm.MethodName) ({ cls := "PathDecoderModel", name := "code", desc := "(III)I" } : Jvm.MethodName)) ∈ pd_B := pd_in1 (tb_6 _ (List.mem_of_getElem? (i := 59) rfl)) rfl
theorem wd_6_60 : (Jvm.Cond.code ({ cls := "PathDecoderModel", name := "code", desc := "(III)I" } : Jvm.MethodName) prog_14_method_13_code (6 : Nat) (Option.some Jvm.ClassFile.FieldType.int)) ∈ pd_B := pd_in1 (tb_6 _ (List.mem_of_getElem? (i := 60) rfl)) rfl
theorem wd_6_61 : (Jvm.Cond.methodLink "PathDecoderModel" (148 : Nat) ({ cls := "PathDecoderModel", name := "wide", desc := "(I)I" } : Jvm.MethodName)) ∈ pd_B := pd_in1 (tb_6 _ (List.mem_of_getElem? (i := 61) rfl)) rfl
theorem wd_6_63 : (Jvm.Cond.instanceMethod ({ cls := "PathDecoderModel", name := "wide", desc := "(I)I" } : Jvm.MethodName)) ∈ pd_B := pd_in1 (tb_6 _ (List.mem_of_getElem? (i := 63) rfl)) rfl
theorem wd_6_64 : (Jvm.Cond.code ({ cls := "PathDecoderModel", name := "wide", desc := "(I)I" } : Jvm.MethodName) prog_14_method_14_code (2 : Nat) (Option.some Jvm.ClassFile.FieldType.int)) ∈ pd_B := pd_in1 (tb_6 _ (List.mem_of_getElem? (i := 64) rfl)) rfl
theorem wd_6_65 : (Jvm.Cond.methodLink "PathDecoderLaw" (133 : Nat) ({ cls := "PathDecoderModel", name := "tap", desc := "(III)I" } : Jvm.MethodName)) ∈ pd_B := pd_in1 (tb_6 _ (List.mem_of_getElem? (i := 65) rfl)) rfl
theorem wd_6_66 : (Jvm.Cond.instanceMethod ({ cls := "PathDecoderModel", name := "tap", desc := "(III)I" } : Jvm.MethodName)) ∈ pd_B := pd_in1 (tb_6 _ (List.mem_of_getElem? (i := 66) rfl)) rfl
theorem wd_6_67 : (Jvm.Cond.selects "PathDecoderModel" ({ cls := "PathDecoderModel", name := "tap", desc := "(III)I" } : Jvm.MethodName) ({ cls := "PathDecoderModel", name := "tap", desc := "(III)I" } : Jvm.MethodName)) ∈ pd_B := pd_in1 (tb_6 _ (List.mem_of_getElem? (i := 67) rfl)) rfl
theorem wd_6_68 : (Jvm.Cond.code ({ cls := "PathDecoderModel", name := "tap", desc := "(III)I" } : Jvm.MethodName) prog_14_method_17_code (5 : Nat) (Option.some Jvm.ClassFile.FieldType.int)) ∈ pd_B := pd_in1 (tb_6 _ (List.mem_of_getElem? (i := 68) rfl)) rfl
theorem wd_6_69 : (Jvm.Cond.methodLink "PathDecoderModel" (152 : Nat) ({ cls := "PathDecoderModel", name := "isCode", desc := "(I)Z" } : Jvm.MethodName)) ∈ pd_B := pd_in1 (tb_6 _ (List.mem_of_getElem? (i := 69) rfl)) rfl
theorem wd_6_71 : (Jvm.Cond.instanceMethod ({ cls := "PathDecoderModel", name := "isCode", desc := "(I)Z" } : Jvm.MethodName)) ∈ pd_B := pd_in1 (tb_6 _ (List.mem_of_getElem? (i := 71) rfl)) rfl
theorem wd_6_72 : (Jvm.Cond.code ({ cls := "PathDecoderModel", name := "isCode", desc := "(I)Z" } : Jvm.MethodName) prog_14_method_15_code (2 : Nat) (Option.some Jvm.ClassFile.FieldType.boolean)) ∈ pd_B := pd_in1 (tb_6 _ (List.mem_of_getElem? (i := 72) rfl)) rfl
theorem wd_6_73 : (Jvm.Cond.methodLink "PathDecoderModel" (155 : Nat) ({ cls := "PathDecoderModel", name := "fits", desc := "(II)Z" } : Jvm.MethodName)) ∈ pd_B := pd_in1 (tb_6 _ (List.mem_of_getElem? (i := 73) rfl)) rfl
theorem wd_6_74 : (Jvm.Cond.static ({ cls := "PathDecoderModel", name := "fits", desc := "(II)Z" } : Jvm.MethodName)) ∈ pd_B := pd_in1 (tb_6 _ (List.mem_of_getElem? (i := 74) rfl)) rfl
theorem wd_6_75 : (Jvm.Cond.code ({ cls := "PathDecoderModel", name := "fits", desc := "(II)Z" } : Jvm.MethodName) prog_14_method_16_code (2 : Nat) (Option.some Jvm.ClassFile.FieldType.boolean)) ∈ pd_B := pd_in1 (tb_6 _ (List.mem_of_getElem? (i := 75) rfl)) rfl
theorem wd_6_76 : (Jvm.Cond.methodLink "PathDecoderLaw" (136 : Nat) ({ cls := "PathDecoderModel", name := "keep", desc := "(IIII)I" } : Jvm.MethodName)) ∈ pd_B := pd_in1 (tb_6 _ (List.mem_of_getElem? (i := 76) rfl)) rfl
theorem wd_6_77 : (Jvm.Cond.instanceMethod ({ cls := "PathDecoderModel", name := "keep", desc := "(IIII)I" } : Jvm.MethodName)) ∈ pd_B := pd_in1 (tb_6 _ (List.mem_of_getElem? (i := 77) rfl)) rfl
theorem wd_6_78 : (Jvm.Cond.selects "PathDecoderModel" ({ cls := "PathDecoderModel", name := "keep", desc := "(IIII)I" } : Jvm.MethodName) ({ cls := "PathDecoderModel", name := "keep", desc := "(IIII)I" } : Jvm.MethodName)) ∈ pd_B := pd_in1 (tb_6 _ (List.mem_of_getElem? (i := 78) rfl)) rfl
theorem wd_6_79 : (Jvm.Cond.code ({ cls := "PathDecoderModel", name := "keep", desc := "(IIII)I" } : Jvm.MethodName) prog_14_method_18_code (7 : Nat) (Option.some Jvm.ClassFile.FieldType.int)) ∈ pd_B := pd_in1 (tb_6 _ (List.mem_of_getElem? (i := 79) rfl)) rfl
theorem wd_6_80 : (Jvm.Cond.methodLink "PathDecoderModel" (158 : Nat) ({ cls := "java/lang/Math", name := "min", desc := "(II)I" } : Jvm.MethodName)) ∈ pd_B := pd_in1 (tb_6 _ (List.mem_of_getElem? (i := 80) rfl)) rfl
theorem wd_6_81 : (Jvm.Cond.methodLink "PathDecoderLaw" (139 : Nat) ({ cls := "PathDecoderModel", name := "stride", desc := "(II)I" } : Jvm.MethodName)) ∈ pd_B := pd_in1 (tb_6 _ (List.mem_of_getElem? (i := 81) rfl)) rfl
theorem wd_6_82 : (Jvm.Cond.instanceMethod ({ cls := "PathDecoderModel", name := "stride", desc := "(II)I" } : Jvm.MethodName)) ∈ pd_B := pd_in1 (tb_6 _ (List.mem_of_getElem? (i := 82) rfl)) rfl
theorem wd_6_83 : (Jvm.Cond.selects "PathDecoderModel" ({ cls := "PathDecoderModel", name := "stride", desc := "(II)I" } : Jvm.MethodName) ({ cls := "PathDecoderModel", name := "stride", desc := "(II)I" } : Jvm.MethodName)) ∈ pd_B := pd_in1 (tb_6 _ (List.mem_of_getElem? (i := 83) rfl)) rfl
theorem wd_6_84 : (Jvm.Cond.code ({ cls := "PathDecoderModel", name := "stride", desc := "(II)I" } : Jvm.MethodName) prog_14_method_19_code (4 : Nat) (Option.some Jvm.ClassFile.FieldType.int)) ∈ pd_B := pd_in1 (tb_6 _ (List.mem_of_getElem? (i := 84) rfl)) rfl
theorem wd_6_85 : (Jvm.Cond.methodLink "PathDecoderLaw" (190 : Nat) ({ cls := "PathDecoderModel", name := "about", desc := "(II)I" } : Jvm.MethodName)) ∈ pd_B := pd_in1 (tb_6 _ (List.mem_of_getElem? (i := 85) rfl)) rfl
theorem wd_6_86 : (Jvm.Cond.instanceMethod ({ cls := "PathDecoderModel", name := "about", desc := "(II)I" } : Jvm.MethodName)) ∈ pd_B := pd_in1 (tb_6 _ (List.mem_of_getElem? (i := 86) rfl)) rfl
theorem wd_6_87 : (Jvm.Cond.selects "PathDecoderModel" ({ cls := "PathDecoderModel", name := "about", desc := "(II)I" } : Jvm.MethodName) ({ cls := "PathDecoderModel", name := "about", desc := "(II)I" } : Jvm.MethodName)) ∈ pd_B := pd_in1 (tb_6 _ (List.mem_of_getElem? (i := 87) rfl)) rfl
theorem wd_6_88 : (Jvm.Cond.code ({ cls := "PathDecoderModel", name := "about", desc := "(II)I" } : Jvm.MethodName) prog_14_method_20_code (3 : Nat) (Option.some Jvm.ClassFile.FieldType.int)) ∈ pd_B := pd_in1 (tb_6 _ (List.mem_of_getElem? (i := 88) rfl)) rfl
theorem wd_6_89 : (Jvm.Cond.methodLink "PathDecoderLaw" (142 : Nat) ({ cls := "PathDecoderModel", name := "send", desc := "(IIII)I" } : Jvm.MethodName)) ∈ pd_B := pd_in1 (tb_6 _ (List.mem_of_getElem? (i := 89) rfl)) rfl
theorem wd_6_90 : (Jvm.Cond.instanceMethod ({ cls := "PathDecoderModel", name := "send", desc := "(IIII)I" } : Jvm.MethodName)) ∈ pd_B := pd_in1 (tb_6 _ (List.mem_of_getElem? (i := 90) rfl)) rfl
theorem wd_6_91 : (Jvm.Cond.selects "PathDecoderModel" ({ cls := "PathDecoderModel", name := "send", desc := "(IIII)I" } : Jvm.MethodName) ({ cls := "PathDecoderModel", name := "send", desc := "(IIII)I" } : Jvm.MethodName)) ∈ pd_B := pd_in1 (tb_6 _ (List.mem_of_getElem? (i := 91) rfl)) rfl
theorem wd_6_92 : (Jvm.Cond.code ({ cls := "PathDecoderModel", name := "send", desc := "(IIII)I" } : Jvm.MethodName) prog_14_method_35_code (7 : Nat) (Option.some Jvm.ClassFile.FieldType.int)) ∈ pd_B := pd_in1 (tb_6 _ (List.mem_of_getElem? (i := 92) rfl)) rfl
theorem wd_6_93 : (Jvm.Cond.methodLink "PathDecoderModel" (197 : Nat) ({ cls := "PathDecoderModel", name := "isN", desc := "(II)Z" } : Jvm.MethodName)) ∈ pd_B := pd_in1 (tb_6 _ (List.mem_of_getElem? (i := 93) rfl)) rfl
theorem wd_6_95 : (Jvm.Cond.instanceMethod ({ cls := "PathDecoderModel", name := "isN", desc := "(II)Z" } : Jvm.MethodName)) ∈ pd_B := pd_in1 (tb_6 _ (List.mem_of_getElem? (i := 95) rfl)) rfl
theorem wd_6_96 : (Jvm.Cond.code ({ cls := "PathDecoderModel", name := "isN", desc := "(II)Z" } : Jvm.MethodName) prog_14_method_34_code (3 : Nat) (Option.some Jvm.ClassFile.FieldType.boolean)) ∈ pd_B := pd_in1 (tb_6 _ (List.mem_of_getElem? (i := 96) rfl)) rfl
theorem wd_6_97 : (Jvm.Cond.methodLink "PathDecoderModel" (200 : Nat) ({ cls := "PathDecoderModel", name := "takes", desc := "(II)V" } : Jvm.MethodName)) ∈ pd_B := pd_in1 (tb_6 _ (List.mem_of_getElem? (i := 97) rfl)) rfl
theorem wd_6_99 : (Jvm.Cond.instanceMethod ({ cls := "PathDecoderModel", name := "takes", desc := "(II)V" } : Jvm.MethodName)) ∈ pd_B := pd_in1 (tb_6 _ (List.mem_of_getElem? (i := 99) rfl)) rfl
theorem wd_6_100 : (Jvm.Cond.code ({ cls := "PathDecoderModel", name := "takes", desc := "(II)V" } : Jvm.MethodName) prog_14_method_33_code (4 : Nat) (Option.none : Option Jvm.ClassFile.FieldType)) ∈ pd_B := pd_in1 (tb_6 _ (List.mem_of_getElem? (i := 100) rfl)) rfl
theorem wd_6_101 : (Jvm.Cond.methodLink "PathDecoderModel" (204 : Nat) ({ cls := "PathDecoderModel", name := "sent", desc := "(II)I" } : Jvm.MethodName)) ∈ pd_B := pd_in1 (tb_6 _ (List.mem_of_getElem? (i := 101) rfl)) rfl
theorem wd_6_103 : (Jvm.Cond.instanceMethod ({ cls := "PathDecoderModel", name := "sent", desc := "(II)I" } : Jvm.MethodName)) ∈ pd_B := pd_in1 (tb_6 _ (List.mem_of_getElem? (i := 103) rfl)) rfl
theorem wd_6_104 : (Jvm.Cond.code ({ cls := "PathDecoderModel", name := "sent", desc := "(II)I" } : Jvm.MethodName) prog_14_method_32_code (10 : Nat) (Option.some Jvm.ClassFile.FieldType.int)) ∈ pd_B := pd_in1 (tb_6 _ (List.mem_of_getElem? (i := 104) rfl)) rfl
theorem wd_6_105 : (Jvm.Cond.methodLink "PathDecoderModel" (184 : Nat) ({ cls := "PathDecoderModel", name := "ends", desc := "(III)I" } : Jvm.MethodName)) ∈ pd_B := pd_in1 (tb_6 _ (List.mem_of_getElem? (i := 105) rfl)) rfl
theorem wd_6_107 : (Jvm.Cond.instanceMethod ({ cls := "PathDecoderModel", name := "ends", desc := "(III)I" } : Jvm.MethodName)) ∈ pd_B := pd_in1 (tb_6 _ (List.mem_of_getElem? (i := 107) rfl)) rfl
theorem wd_6_108 : (Jvm.Cond.code ({ cls := "PathDecoderModel", name := "ends", desc := "(III)I" } : Jvm.MethodName) prog_14_method_31_code (6 : Nat) (Option.some Jvm.ClassFile.FieldType.int)) ∈ pd_B := pd_in1 (tb_6 _ (List.mem_of_getElem? (i := 108) rfl)) rfl
theorem wd_6_109 : (Jvm.Cond.methodLink "PathDecoderModel" (181 : Nat) ({ cls := "PathDecoderModel", name := "next", desc := "(III)I" } : Jvm.MethodName)) ∈ pd_B := pd_in1 (tb_6 _ (List.mem_of_getElem? (i := 109) rfl)) rfl
theorem wd_6_111 : (Jvm.Cond.instanceMethod ({ cls := "PathDecoderModel", name := "next", desc := "(III)I" } : Jvm.MethodName)) ∈ pd_B := pd_in1 (tb_6 _ (List.mem_of_getElem? (i := 111) rfl)) rfl
theorem wd_6_112 : (Jvm.Cond.code ({ cls := "PathDecoderModel", name := "next", desc := "(III)I" } : Jvm.MethodName) prog_14_method_23_code (4 : Nat) (Option.some Jvm.ClassFile.FieldType.int)) ∈ pd_B := pd_in1 (tb_6 _ (List.mem_of_getElem? (i := 112) rfl)) rfl
theorem wd_6_113 : (Jvm.Cond.methodLink "PathDecoderModel" (167 : Nat) ({ cls := "PathDecoderModel", name := "fed", desc := "(II)I" } : Jvm.MethodName)) ∈ pd_B := pd_in1 (tb_6 _ (List.mem_of_getElem? (i := 113) rfl)) rfl
theorem wd_6_115 : (Jvm.Cond.instanceMethod ({ cls := "PathDecoderModel", name := "fed", desc := "(II)I" } : Jvm.MethodName)) ∈ pd_B := pd_in1 (tb_6 _ (List.mem_of_getElem? (i := 115) rfl)) rfl
theorem wd_6_116 : (Jvm.Cond.code ({ cls := "PathDecoderModel", name := "fed", desc := "(II)I" } : Jvm.MethodName) prog_14_method_22_code (3 : Nat) (Option.some Jvm.ClassFile.FieldType.int)) ∈ pd_B := pd_in1 (tb_6 _ (List.mem_of_getElem? (i := 116) rfl)) rfl
theorem wd_6_117 : (Jvm.Cond.methodLink "PathDecoderModel" (164 : Nat) ({ cls := "PathDecoderModel", name := "parity", desc := "(I)I" } : Jvm.MethodName)) ∈ pd_B := pd_in1 (tb_6 _ (List.mem_of_getElem? (i := 117) rfl)) rfl
theorem wd_6_118 : (Jvm.Cond.static ({ cls := "PathDecoderModel", name := "parity", desc := "(I)I" } : Jvm.MethodName)) ∈ pd_B := pd_in1 (tb_6 _ (List.mem_of_getElem? (i := 118) rfl)) rfl
theorem wd_6_119 : (Jvm.Cond.code ({ cls := "PathDecoderModel", name := "parity", desc := "(I)I" } : Jvm.MethodName) prog_14_method_21_code (3 : Nat) (Option.some Jvm.ClassFile.FieldType.int)) ∈ pd_B := pd_in1 (tb_6 _ (List.mem_of_getElem? (i := 119) rfl)) rfl
theorem wd_6_120 : (Jvm.Cond.methodLink "PathDecoderModel" (187 : Nat) ({ cls := "PathDecoderModel", name := "isOrder", desc := "(II)Z" } : Jvm.MethodName)) ∈ pd_B := pd_in1 (tb_6 _ (List.mem_of_getElem? (i := 120) rfl)) rfl
theorem wd_6_122 : (Jvm.Cond.instanceMethod ({ cls := "PathDecoderModel", name := "isOrder", desc := "(II)Z" } : Jvm.MethodName)) ∈ pd_B := pd_in1 (tb_6 _ (List.mem_of_getElem? (i := 122) rfl)) rfl
theorem wd_6_123 : (Jvm.Cond.code ({ cls := "PathDecoderModel", name := "isOrder", desc := "(II)Z" } : Jvm.MethodName) prog_14_method_30_code (6 : Nat) (Option.some Jvm.ClassFile.FieldType.boolean)) ∈ pd_B := pd_in1 (tb_6 _ (List.mem_of_getElem? (i := 123) rfl)) rfl
theorem wd_6_124 : (Jvm.Cond.methodLink "PathDecoderModel" (177 : Nat) ({ cls := "PathDecoderModel", name := "order", desc := "(III)I" } : Jvm.MethodName)) ∈ pd_B := pd_in1 (tb_6 _ (List.mem_of_getElem? (i := 124) rfl)) rfl
theorem wd_6_126 : (Jvm.Cond.instanceMethod ({ cls := "PathDecoderModel", name := "order", desc := "(III)I" } : Jvm.MethodName)) ∈ pd_B := pd_in1 (tb_6 _ (List.mem_of_getElem? (i := 126) rfl)) rfl
theorem wd_6_127 : (Jvm.Cond.code ({ cls := "PathDecoderModel", name := "order", desc := "(III)I" } : Jvm.MethodName) prog_14_method_29_code (4 : Nat) (Option.some Jvm.ClassFile.FieldType.int)) ∈ pd_B := pd_in1 (tb_6 _ (List.mem_of_getElem? (i := 127) rfl)) rfl
theorem wd_6_128 : (Jvm.Cond.methodLink "PathDecoderModel" (190 : Nat) ({ cls := "PathDecoderModel", name := "steps", desc := "(II)I" } : Jvm.MethodName)) ∈ pd_B := pd_in1 (tb_6 _ (List.mem_of_getElem? (i := 128) rfl)) rfl
theorem wd_6_130 : (Jvm.Cond.instanceMethod ({ cls := "PathDecoderModel", name := "steps", desc := "(II)I" } : Jvm.MethodName)) ∈ pd_B := pd_in1 (tb_6 _ (List.mem_of_getElem? (i := 130) rfl)) rfl
theorem wd_6_131 : (Jvm.Cond.code ({ cls := "PathDecoderModel", name := "steps", desc := "(II)I" } : Jvm.MethodName) prog_14_method_27_code (3 : Nat) (Option.some Jvm.ClassFile.FieldType.int)) ∈ pd_B := pd_in1 (tb_6 _ (List.mem_of_getElem? (i := 131) rfl)) rfl
theorem wd_6_132 : (Jvm.Cond.methodLink "PathDecoderModel" (170 : Nat) ({ cls := "PathDecoderModel", name := "isKept", desc := "(III)Z" } : Jvm.MethodName)) ∈ pd_B := pd_in1 (tb_6 _ (List.mem_of_getElem? (i := 132) rfl)) rfl
theorem wd_6_134 : (Jvm.Cond.instanceMethod ({ cls := "PathDecoderModel", name := "isKept", desc := "(III)Z" } : Jvm.MethodName)) ∈ pd_B := pd_in1 (tb_6 _ (List.mem_of_getElem? (i := 134) rfl)) rfl
theorem wd_6_135 : (Jvm.Cond.code ({ cls := "PathDecoderModel", name := "isKept", desc := "(III)Z" } : Jvm.MethodName) prog_14_method_25_code (4 : Nat) (Option.some Jvm.ClassFile.FieldType.boolean)) ∈ pd_B := pd_in1 (tb_6 _ (List.mem_of_getElem? (i := 135) rfl)) rfl
theorem wd_6_136 : (Jvm.Cond.methodLink "PathDecoderModel" (193 : Nat) ({ cls := "PathDecoderModel", name := "out", desc := "(IIII)I" } : Jvm.MethodName)) ∈ pd_B := pd_in1 (tb_6 _ (List.mem_of_getElem? (i := 136) rfl)) rfl
theorem wd_6_138 : (Jvm.Cond.instanceMethod ({ cls := "PathDecoderModel", name := "out", desc := "(IIII)I" } : Jvm.MethodName)) ∈ pd_B := pd_in1 (tb_6 _ (List.mem_of_getElem? (i := 138) rfl)) rfl
theorem wd_6_139 : (Jvm.Cond.code ({ cls := "PathDecoderModel", name := "out", desc := "(IIII)I" } : Jvm.MethodName) prog_14_method_24_code (5 : Nat) (Option.some Jvm.ClassFile.FieldType.int)) ∈ pd_B := pd_in1 (tb_6 _ (List.mem_of_getElem? (i := 139) rfl)) rfl
theorem wd_6_140 : (Jvm.Cond.methodLink "PathDecoderLaw" (145 : Nat) ({ cls := "PathDecoderModel", name := "length", desc := "(II)I" } : Jvm.MethodName)) ∈ pd_B := pd_in1 (tb_6 _ (List.mem_of_getElem? (i := 140) rfl)) rfl
theorem wd_6_141 : (Jvm.Cond.instanceMethod ({ cls := "PathDecoderModel", name := "length", desc := "(II)I" } : Jvm.MethodName)) ∈ pd_B := pd_in1 (tb_6 _ (List.mem_of_getElem? (i := 141) rfl)) rfl
theorem wd_6_142 : (Jvm.Cond.selects "PathDecoderModel" ({ cls := "PathDecoderModel", name := "length", desc := "(II)I" } : Jvm.MethodName) ({ cls := "PathDecoderModel", name := "length", desc := "(II)I" } : Jvm.MethodName)) ∈ pd_B := pd_in1 (tb_6 _ (List.mem_of_getElem? (i := 142) rfl)) rfl
theorem wd_6_143 : (Jvm.Cond.code ({ cls := "PathDecoderModel", name := "length", desc := "(II)I" } : Jvm.MethodName) prog_14_method_36_code (3 : Nat) (Option.some Jvm.ClassFile.FieldType.int)) ∈ pd_B := pd_in1 (tb_6 _ (List.mem_of_getElem? (i := 143) rfl)) rfl
theorem wd_6_144 : (Jvm.Cond.methodLink "PathDecoderModel" (207 : Nat) ({ cls := "PathDecoderModel", name := "sentAhead", desc := "(II)I" } : Jvm.MethodName)) ∈ pd_B := pd_in1 (tb_6 _ (List.mem_of_getElem? (i := 144) rfl)) rfl
theorem wd_6_146 : (Jvm.Cond.instanceMethod ({ cls := "PathDecoderModel", name := "sentAhead", desc := "(II)I" } : Jvm.MethodName)) ∈ pd_B := pd_in1 (tb_6 _ (List.mem_of_getElem? (i := 146) rfl)) rfl
theorem wd_6_147 : (Jvm.Cond.code ({ cls := "PathDecoderModel", name := "sentAhead", desc := "(II)I" } : Jvm.MethodName) prog_14_method_28_code (5 : Nat) (Option.some Jvm.ClassFile.FieldType.int)) ∈ pd_B := pd_in1 (tb_6 _ (List.mem_of_getElem? (i := 147) rfl)) rfl
theorem wd_6_148 : (Jvm.Cond.methodLink "PathDecoderModel" (174 : Nat) ({ cls := "PathDecoderModel", name := "sends", desc := "(II)I" } : Jvm.MethodName)) ∈ pd_B := pd_in1 (tb_6 _ (List.mem_of_getElem? (i := 148) rfl)) rfl
theorem wd_6_150 : (Jvm.Cond.instanceMethod ({ cls := "PathDecoderModel", name := "sends", desc := "(II)I" } : Jvm.MethodName)) ∈ pd_B := pd_in1 (tb_6 _ (List.mem_of_getElem? (i := 150) rfl)) rfl
theorem wd_6_151 : (Jvm.Cond.code ({ cls := "PathDecoderModel", name := "sends", desc := "(II)I" } : Jvm.MethodName) prog_14_method_26_code (5 : Nat) (Option.some Jvm.ClassFile.FieldType.int)) ∈ pd_B := pd_in1 (tb_6 _ (List.mem_of_getElem? (i := 151) rfl)) rfl
theorem wd_6_152 : (Jvm.Cond.methodLink "PathDecoderLaw" (148 : Nat) ({ cls := "PathDecoderModel", name := "cost", desc := "(IIII)I" } : Jvm.MethodName)) ∈ pd_B := pd_in1 (tb_6 _ (List.mem_of_getElem? (i := 152) rfl)) rfl
theorem wd_6_153 : (Jvm.Cond.instanceMethod ({ cls := "PathDecoderModel", name := "cost", desc := "(IIII)I" } : Jvm.MethodName)) ∈ pd_B := pd_in1 (tb_6 _ (List.mem_of_getElem? (i := 153) rfl)) rfl
theorem wd_6_154 : (Jvm.Cond.selects "PathDecoderModel" ({ cls := "PathDecoderModel", name := "cost", desc := "(IIII)I" } : Jvm.MethodName) ({ cls := "PathDecoderModel", name := "cost", desc := "(IIII)I" } : Jvm.MethodName)) ∈ pd_B := pd_in1 (tb_6 _ (List.mem_of_getElem? (i := 154) rfl)) rfl
theorem wd_6_155 : (Jvm.Cond.code ({ cls := "PathDecoderModel", name := "cost", desc := "(IIII)I" } : Jvm.MethodName) prog_14_method_37_code (8 : Nat) (Option.some Jvm.ClassFile.FieldType.int)) ∈ pd_B := pd_in1 (tb_6 _ (List.mem_of_getElem? (i := 155) rfl)) rfl
theorem wd_6_156 : (Jvm.Cond.methodLink "PathDecoderModel" (210 : Nat) ({ cls := "PathDecoderModel", name := "markCost", desc := "(III)I" } : Jvm.MethodName)) ∈ pd_B := pd_in1 (tb_6 _ (List.mem_of_getElem? (i := 156) rfl)) rfl
theorem wd_6_158 : (Jvm.Cond.instanceMethod ({ cls := "PathDecoderModel", name := "markCost", desc := "(III)I" } : Jvm.MethodName)) ∈ pd_B := pd_in1 (tb_6 _ (List.mem_of_getElem? (i := 158) rfl)) rfl
theorem wd_6_159 : (Jvm.Cond.code ({ cls := "PathDecoderModel", name := "markCost", desc := "(III)I" } : Jvm.MethodName) prog_14_method_12_code (5 : Nat) (Option.some Jvm.ClassFile.FieldType.int)) ∈ pd_B := pd_in1 (tb_6 _ (List.mem_of_getElem? (i := 159) rfl)) rfl
theorem wd_6_160 : (Jvm.Cond.methodLink "PathDecoderLaw" (151 : Nat) ({ cls := "PathDecoderModel", name := "best", desc := "(III)I" } : Jvm.MethodName)) ∈ pd_B := pd_in1 (tb_6 _ (List.mem_of_getElem? (i := 160) rfl)) rfl
theorem wd_6_161 : (Jvm.Cond.instanceMethod ({ cls := "PathDecoderModel", name := "best", desc := "(III)I" } : Jvm.MethodName)) ∈ pd_B := pd_in1 (tb_6 _ (List.mem_of_getElem? (i := 161) rfl)) rfl
theorem wd_6_162 : (Jvm.Cond.selects "PathDecoderModel" ({ cls := "PathDecoderModel", name := "best", desc := "(III)I" } : Jvm.MethodName) ({ cls := "PathDecoderModel", name := "best", desc := "(III)I" } : Jvm.MethodName)) ∈ pd_B := pd_in1 (tb_6 _ (List.mem_of_getElem? (i := 162) rfl)) rfl
theorem wd_6_163 : (Jvm.Cond.code ({ cls := "PathDecoderModel", name := "best", desc := "(III)I" } : Jvm.MethodName) prog_14_method_48_code (4 : Nat) (Option.some Jvm.ClassFile.FieldType.int)) ∈ pd_B := pd_in1 (tb_6 _ (List.mem_of_getElem? (i := 163) rfl)) rfl
theorem wd_6_164 : (Jvm.Cond.methodLink "PathDecoderModel" (245 : Nat) ({ cls := "PathDecoderModel", name := "isDecoding", desc := "(IIIZ)Z" } : Jvm.MethodName)) ∈ pd_B := pd_in1 (tb_6 _ (List.mem_of_getElem? (i := 164) rfl)) rfl
theorem wd_6_166 : (Jvm.Cond.instanceMethod ({ cls := "PathDecoderModel", name := "isDecoding", desc := "(IIIZ)Z" } : Jvm.MethodName)) ∈ pd_B := pd_in1 (tb_6 _ (List.mem_of_getElem? (i := 166) rfl)) rfl
theorem wd_6_167 : (Jvm.Cond.code ({ cls := "PathDecoderModel", name := "isDecoding", desc := "(IIIZ)Z" } : Jvm.MethodName) prog_14_method_47_code (5 : Nat) (Option.some Jvm.ClassFile.FieldType.boolean)) ∈ pd_B := pd_in1 (tb_6 _ (List.mem_of_getElem? (i := 167) rfl)) rfl
theorem wd_6_168 : (Jvm.Cond.methodLink "PathDecoderModel" (249 : Nat) ({ cls := "PathDecoderModel", name := "lists", desc := "(IIII)V" } : Jvm.MethodName)) ∈ pd_B := pd_in1 (tb_6 _ (List.mem_of_getElem? (i := 168) rfl)) rfl
theorem wd_6_170 : (Jvm.Cond.instanceMethod ({ cls := "PathDecoderModel", name := "lists", desc := "(IIII)V" } : Jvm.MethodName)) ∈ pd_B := pd_in1 (tb_6 _ (List.mem_of_getElem? (i := 170) rfl)) rfl
theorem wd_6_171 : (Jvm.Cond.code ({ cls := "PathDecoderModel", name := "lists", desc := "(IIII)V" } : Jvm.MethodName) prog_14_method_44_code (8 : Nat) (Option.none : Option Jvm.ClassFile.FieldType)) ∈ pd_B := pd_in1 (tb_6 _ (List.mem_of_getElem? (i := 171) rfl)) rfl
theorem wd_6_172 : (Jvm.Cond.methodLink "PathDecoderModel" (218 : Nat) ({ cls := "PathDecoderModel", name := "costs", desc := "(III)V" } : Jvm.MethodName)) ∈ pd_B := pd_in1 (tb_6 _ (List.mem_of_getElem? (i := 172) rfl)) rfl
theorem wd_6_174 : (Jvm.Cond.instanceMethod ({ cls := "PathDecoderModel", name := "costs", desc := "(III)V" } : Jvm.MethodName)) ∈ pd_B := pd_in1 (tb_6 _ (List.mem_of_getElem? (i := 174) rfl)) rfl
theorem wd_6_175 : (Jvm.Cond.code ({ cls := "PathDecoderModel", name := "costs", desc := "(III)V" } : Jvm.MethodName) prog_14_method_38_code (11 : Nat) (Option.none : Option Jvm.ClassFile.FieldType)) ∈ pd_B := pd_in1 (tb_6 _ (List.mem_of_getElem? (i := 175) rfl)) rfl
theorem wd_6_176 : (Jvm.Cond.methodLink "PathDecoderModel" (225 : Nat) ({ cls := "PathDecoderModel", name := "rests", desc := "(IIII)V" } : Jvm.MethodName)) ∈ pd_B := pd_in1 (tb_6 _ (List.mem_of_getElem? (i := 176) rfl)) rfl
theorem wd_6_178 : (Jvm.Cond.instanceMethod ({ cls := "PathDecoderModel", name := "rests", desc := "(IIII)V" } : Jvm.MethodName)) ∈ pd_B := pd_in1 (tb_6 _ (List.mem_of_getElem? (i := 178) rfl)) rfl
theorem wd_6_179 : (Jvm.Cond.code ({ cls := "PathDecoderModel", name := "rests", desc := "(IIII)V" } : Jvm.MethodName) prog_14_method_39_code (12 : Nat) (Option.none : Option Jvm.ClassFile.FieldType)) ∈ pd_B := pd_in1 (tb_6 _ (List.mem_of_getElem? (i := 179) rfl)) rfl
theorem wd_6_180 : (Jvm.Cond.methodLink "PathDecoderModel" (213 : Nat) ({ cls := "PathDecoderModel", name := "rest", desc := "(IIII)V" } : Jvm.MethodName)) ∈ pd_B := pd_in1 (tb_6 _ (List.mem_of_getElem? (i := 180) rfl)) rfl
theorem wd_6_182 : (Jvm.Cond.instanceMethod ({ cls := "PathDecoderModel", name := "rest", desc := "(IIII)V" } : Jvm.MethodName)) ∈ pd_B := pd_in1 (tb_6 _ (List.mem_of_getElem? (i := 182) rfl)) rfl
theorem wd_6_183 : (Jvm.Cond.code ({ cls := "PathDecoderModel", name := "rest", desc := "(IIII)V" } : Jvm.MethodName) prog_14_method_40_code (13 : Nat) (Option.none : Option Jvm.ClassFile.FieldType)) ∈ pd_B := pd_in1 (tb_6 _ (List.mem_of_getElem? (i := 183) rfl)) rfl
theorem wd_6_184 : (Jvm.Cond.constant "PathDecoderModel" (217 : Nat) (1000000000 : Int32)) ∈ pd_B := pd_in1 (tb_6 _ (List.mem_of_getElem? (i := 184) rfl)) rfl
theorem wd_6_185 : (Jvm.Cond.methodLink "PathDecoderModel" (228 : Nat) ({ cls := "PathDecoderModel", name := "tells", desc := "(IIIII)V" } : Jvm.MethodName)) ∈ pd_B := pd_in1 (tb_6 _ (List.mem_of_getElem? (i := 185) rfl)) rfl
theorem wd_6_187 : (Jvm.Cond.instanceMethod ({ cls := "PathDecoderModel", name := "tells", desc := "(IIIII)V" } : Jvm.MethodName)) ∈ pd_B := pd_in1 (tb_6 _ (List.mem_of_getElem? (i := 187) rfl)) rfl
theorem wd_6_188 : (Jvm.Cond.code ({ cls := "PathDecoderModel", name := "tells", desc := "(IIIII)V" } : Jvm.MethodName) prog_14_method_41_code (10 : Nat) (Option.none : Option Jvm.ClassFile.FieldType)) ∈ pd_B := pd_in1 (tb_6 _ (List.mem_of_getElem? (i := 188) rfl)) rfl
theorem wd_6_189 : (Jvm.Cond.methodLink "PathDecoderModel" (232 : Nat) ({ cls := "PathDecoderModel", name := "joins", desc := "(IIIII)Z" } : Jvm.MethodName)) ∈ pd_B := pd_in1 (tb_6 _ (List.mem_of_getElem? (i := 189) rfl)) rfl
theorem wd_6_191 : (Jvm.Cond.instanceMethod ({ cls := "PathDecoderModel", name := "joins", desc := "(IIIII)Z" } : Jvm.MethodName)) ∈ pd_B := pd_in1 (tb_6 _ (List.mem_of_getElem? (i := 191) rfl)) rfl
theorem wd_6_192 : (Jvm.Cond.code ({ cls := "PathDecoderModel", name := "joins", desc := "(IIIII)Z" } : Jvm.MethodName) prog_14_method_45_code (8 : Nat) (Option.some Jvm.ClassFile.FieldType.boolean)) ∈ pd_B := pd_in1 (tb_6 _ (List.mem_of_getElem? (i := 192) rfl)) rfl
theorem wd_6_193 : (Jvm.Cond.methodLink "PathDecoderModel" (236 : Nat) ({ cls := "PathDecoderModel", name := "isBefore", desc := "(IIIII)Z" } : Jvm.MethodName)) ∈ pd_B := pd_in1 (tb_6 _ (List.mem_of_getElem? (i := 193) rfl)) rfl
theorem wd_6_195 : (Jvm.Cond.instanceMethod ({ cls := "PathDecoderModel", name := "isBefore", desc := "(IIIII)Z" } : Jvm.MethodName)) ∈ pd_B := pd_in1 (tb_6 _ (List.mem_of_getElem? (i := 195) rfl)) rfl
theorem wd_6_196 : (Jvm.Cond.code ({ cls := "PathDecoderModel", name := "isBefore", desc := "(IIIII)Z" } : Jvm.MethodName) prog_14_method_46_code (10 : Nat) (Option.some Jvm.ClassFile.FieldType.boolean)) ∈ pd_B := pd_in1 (tb_6 _ (List.mem_of_getElem? (i := 196) rfl)) rfl
theorem wd_6_197 : (Jvm.Cond.methodLink "PathDecoderModel" (239 : Nat) ({ cls := "PathDecoderModel", name := "isAhead", desc := "(III)Z" } : Jvm.MethodName)) ∈ pd_B := pd_in1 (tb_6 _ (List.mem_of_getElem? (i := 197) rfl)) rfl
theorem wd_6_199 : (Jvm.Cond.instanceMethod ({ cls := "PathDecoderModel", name := "isAhead", desc := "(III)Z" } : Jvm.MethodName)) ∈ pd_B := pd_in1 (tb_6 _ (List.mem_of_getElem? (i := 199) rfl)) rfl
theorem wd_6_200 : (Jvm.Cond.code ({ cls := "PathDecoderModel", name := "isAhead", desc := "(III)Z" } : Jvm.MethodName) prog_14_method_42_code (5 : Nat) (Option.some Jvm.ClassFile.FieldType.boolean)) ∈ pd_B := pd_in1 (tb_6 _ (List.mem_of_getElem? (i := 200) rfl)) rfl
theorem wd_6_201 : (Jvm.Cond.methodLink "PathDecoderModel" (242 : Nat) ({ cls := "PathDecoderModel", name := "exchange", desc := "(II)V" } : Jvm.MethodName)) ∈ pd_B := pd_in1 (tb_6 _ (List.mem_of_getElem? (i := 201) rfl)) rfl
theorem wd_6_203 : (Jvm.Cond.instanceMethod ({ cls := "PathDecoderModel", name := "exchange", desc := "(II)V" } : Jvm.MethodName)) ∈ pd_B := pd_in1 (tb_6 _ (List.mem_of_getElem? (i := 203) rfl)) rfl
theorem wd_6_204 : (Jvm.Cond.code ({ cls := "PathDecoderModel", name := "exchange", desc := "(II)V" } : Jvm.MethodName) prog_14_method_43_code (5 : Nat) (Option.none : Option Jvm.ClassFile.FieldType)) ∈ pd_B := pd_in1 (tb_6 _ (List.mem_of_getElem? (i := 204) rfl)) rfl
theorem wd_6_205 : (Jvm.Cond.methodLink "PathDecoderLaw" (154 : Nat) ({ cls := "PathDecoderModel", name := "list", desc := "(IIII)I" } : Jvm.MethodName)) ∈ pd_B := pd_in1 (tb_6 _ (List.mem_of_getElem? (i := 205) rfl)) rfl
theorem wd_6_206 : (Jvm.Cond.instanceMethod ({ cls := "PathDecoderModel", name := "list", desc := "(IIII)I" } : Jvm.MethodName)) ∈ pd_B := pd_in1 (tb_6 _ (List.mem_of_getElem? (i := 206) rfl)) rfl
theorem wd_6_207 : (Jvm.Cond.selects "PathDecoderModel" ({ cls := "PathDecoderModel", name := "list", desc := "(IIII)I" } : Jvm.MethodName) ({ cls := "PathDecoderModel", name := "list", desc := "(IIII)I" } : Jvm.MethodName)) ∈ pd_B := pd_in1 (tb_6 _ (List.mem_of_getElem? (i := 207) rfl)) rfl
theorem wd_6_208 : (Jvm.Cond.code ({ cls := "PathDecoderModel", name := "list", desc := "(IIII)I" } : Jvm.MethodName) prog_14_method_49_code (5 : Nat) (Option.some Jvm.ClassFile.FieldType.int)) ∈ pd_B := pd_in1 (tb_6 _ (List.mem_of_getElem? (i := 208) rfl)) rfl
theorem wd_6_209 : (Jvm.Cond.methodLink "PathDecoderLaw" (157 : Nat) ({ cls := "PathDecoderModel", name := "few", desc := "(IIII)I" } : Jvm.MethodName)) ∈ pd_B := pd_in1 (tb_6 _ (List.mem_of_getElem? (i := 209) rfl)) rfl
theorem wd_6_210 : (Jvm.Cond.instanceMethod ({ cls := "PathDecoderModel", name := "few", desc := "(IIII)I" } : Jvm.MethodName)) ∈ pd_B := pd_in1 (tb_6 _ (List.mem_of_getElem? (i := 210) rfl)) rfl
theorem wd_6_211 : (Jvm.Cond.selects "PathDecoderModel" ({ cls := "PathDecoderModel", name := "few", desc := "(IIII)I" } : Jvm.MethodName) ({ cls := "PathDecoderModel", name := "few", desc := "(IIII)I" } : Jvm.MethodName)) ∈ pd_B := pd_in1 (tb_6 _ (List.mem_of_getElem? (i := 211) rfl)) rfl
theorem wd_6_212 : (Jvm.Cond.code ({ cls := "PathDecoderModel", name := "few", desc := "(IIII)I" } : Jvm.MethodName) prog_14_method_50_code (10 : Nat) (Option.some Jvm.ClassFile.FieldType.int)) ∈ pd_B := pd_in1 (tb_6 _ (List.mem_of_getElem? (i := 212) rfl)) rfl
theorem wd_6_213 : (Jvm.Cond.methodLink "PathDecoderModel" (252 : Nat) ({ cls := "PathDecoderModel", name := "goes", desc := "(IIII)V" } : Jvm.MethodName)) ∈ pd_B := pd_in1 (tb_6 _ (List.mem_of_getElem? (i := 213) rfl)) rfl
theorem wd_6_215 : (Jvm.Cond.instanceMethod ({ cls := "PathDecoderModel", name := "goes", desc := "(IIII)V" } : Jvm.MethodName)) ∈ pd_B := pd_in1 (tb_6 _ (List.mem_of_getElem? (i := 215) rfl)) rfl
theorem wd_6_216 : (Jvm.Cond.code ({ cls := "PathDecoderModel", name := "goes", desc := "(IIII)V" } : Jvm.MethodName) prog_14_method_51_code (7 : Nat) (Option.none : Option Jvm.ClassFile.FieldType)) ∈ pd_B := pd_in1 (tb_6 _ (List.mem_of_getElem? (i := 216) rfl)) rfl
theorem wd_6_217 : (Jvm.Cond.methodLink "PathDecoderModel" (255 : Nat) ({ cls := "PathDecoderModel", name := "prunes", desc := "(II)V" } : Jvm.MethodName)) ∈ pd_B := pd_in1 (tb_6 _ (List.mem_of_getElem? (i := 217) rfl)) rfl
theorem wd_6_219 : (Jvm.Cond.instanceMethod ({ cls := "PathDecoderModel", name := "prunes", desc := "(II)V" } : Jvm.MethodName)) ∈ pd_B := pd_in1 (tb_6 _ (List.mem_of_getElem? (i := 219) rfl)) rfl
theorem wd_6_220 : (Jvm.Cond.code ({ cls := "PathDecoderModel", name := "prunes", desc := "(II)V" } : Jvm.MethodName) prog_14_method_52_code (6 : Nat) (Option.none : Option Jvm.ClassFile.FieldType)) ∈ pd_B := pd_in1 (tb_6 _ (List.mem_of_getElem? (i := 220) rfl)) rfl
theorem wd_6_221 : (Jvm.Cond.methodLink "PathDecoderLaw" (160 : Nat) ({ cls := "PathDecoderModel", name := "each", desc := "(III)I" } : Jvm.MethodName)) ∈ pd_B := pd_in1 (tb_6 _ (List.mem_of_getElem? (i := 221) rfl)) rfl
theorem wd_6_222 : (Jvm.Cond.instanceMethod ({ cls := "PathDecoderModel", name := "each", desc := "(III)I" } : Jvm.MethodName)) ∈ pd_B := pd_in1 (tb_6 _ (List.mem_of_getElem? (i := 222) rfl)) rfl
theorem wd_6_223 : (Jvm.Cond.selects "PathDecoderModel" ({ cls := "PathDecoderModel", name := "each", desc := "(III)I" } : Jvm.MethodName) ({ cls := "PathDecoderModel", name := "each", desc := "(III)I" } : Jvm.MethodName)) ∈ pd_B := pd_in1 (tb_6 _ (List.mem_of_getElem? (i := 223) rfl)) rfl
theorem wd_6_224 : (Jvm.Cond.code ({ cls := "PathDecoderModel", name := "each", desc := "(III)I" } : Jvm.MethodName) prog_14_method_56_code (7 : Nat) (Option.some Jvm.ClassFile.FieldType.int)) ∈ pd_B := pd_in1 (tb_6 _ (List.mem_of_getElem? (i := 224) rfl)) rfl
theorem wd_6_225 : (Jvm.Cond.methodLink "PathDecoderModel" (260 : Nat) ({ cls := "PathDecoderModel", name := "clearLeasts", desc := "(I)V" } : Jvm.MethodName)) ∈ pd_B := pd_in1 (tb_6 _ (List.mem_of_getElem? (i := 225) rfl)) rfl
theorem wd_6_227 : (Jvm.Cond.instanceMethod ({ cls := "PathDecoderModel", name := "clearLeasts", desc := "(I)V" } : Jvm.MethodName)) ∈ pd_B := pd_in1 (tb_6 _ (List.mem_of_getElem? (i := 227) rfl)) rfl
theorem wd_6_228 : (Jvm.Cond.code ({ cls := "PathDecoderModel", name := "clearLeasts", desc := "(I)V" } : Jvm.MethodName) prog_14_method_54_code (3 : Nat) (Option.none : Option Jvm.ClassFile.FieldType)) ∈ pd_B := pd_in1 (tb_6 _ (List.mem_of_getElem? (i := 228) rfl)) rfl
theorem wd_6_229 : (Jvm.Cond.methodLink "PathDecoderModel" (264 : Nat) ({ cls := "PathDecoderModel", name := "leasts", desc := "(IIIZZ)V" } : Jvm.MethodName)) ∈ pd_B := pd_in1 (tb_6 _ (List.mem_of_getElem? (i := 229) rfl)) rfl
theorem wd_6_231 : (Jvm.Cond.instanceMethod ({ cls := "PathDecoderModel", name := "leasts", desc := "(IIIZZ)V" } : Jvm.MethodName)) ∈ pd_B := pd_in1 (tb_6 _ (List.mem_of_getElem? (i := 231) rfl)) rfl
theorem wd_6_232 : (Jvm.Cond.code ({ cls := "PathDecoderModel", name := "leasts", desc := "(IIIZZ)V" } : Jvm.MethodName) prog_14_method_53_code (13 : Nat) (Option.none : Option Jvm.ClassFile.FieldType)) ∈ pd_B := pd_in1 (tb_6 _ (List.mem_of_getElem? (i := 232) rfl)) rfl
theorem wd_6_233 : (Jvm.Cond.methodLink "PathDecoderModel" (271 : Nat) ({ cls := "PathDecoderModel", name := "difference", desc := "(I)I" } : Jvm.MethodName)) ∈ pd_B := pd_in1 (tb_6 _ (List.mem_of_getElem? (i := 233) rfl)) rfl
theorem wd_6_235 : (Jvm.Cond.instanceMethod ({ cls := "PathDecoderModel", name := "difference", desc := "(I)I" } : Jvm.MethodName)) ∈ pd_B := pd_in1 (tb_6 _ (List.mem_of_getElem? (i := 235) rfl)) rfl
theorem wd_6_236 : (Jvm.Cond.code ({ cls := "PathDecoderModel", name := "difference", desc := "(I)I" } : Jvm.MethodName) prog_14_method_55_code (2 : Nat) (Option.some Jvm.ClassFile.FieldType.int)) ∈ pd_B := pd_in1 (tb_6 _ (List.mem_of_getElem? (i := 236) rfl)) rfl
theorem wd_6_237 : (Jvm.Cond.constant "PathDecoderModel" (258 : Nat) (1000000 : Int32)) ∈ pd_B := pd_in1 (tb_6 _ (List.mem_of_getElem? (i := 237) rfl)) rfl
theorem wd_6_238 : (Jvm.Cond.constant "PathDecoderModel" (259 : Nat) (-1000000 : Int32)) ∈ pd_B := pd_in1 (tb_6 _ (List.mem_of_getElem? (i := 238) rfl)) rfl
theorem wd_6_239 : (Jvm.Cond.methodLink "PathDecoderLaw" (163 : Nat) ({ cls := "PathDecoderModel", name := "talk", desc := "(IIII)I" } : Jvm.MethodName)) ∈ pd_B := pd_in1 (tb_6 _ (List.mem_of_getElem? (i := 239) rfl)) rfl
theorem wd_7_0 : (Jvm.Cond.instanceMethod ({ cls := "PathDecoderModel", name := "talk", desc := "(IIII)I" } : Jvm.MethodName)) ∈ pd_B := pd_in1 (tb_7 _ (List.mem_of_getElem? (i := 0) rfl)) rfl
theorem wd_7_1 : (Jvm.Cond.selects "PathDecoderModel" ({ cls := "PathDecoderModel", name := "talk", desc := "(IIII)I" } : Jvm.MethodName) ({ cls := "PathDecoderModel", name := "talk", desc := "(IIII)I" } : Jvm.MethodName)) ∈ pd_B := pd_in1 (tb_7 _ (List.mem_of_getElem? (i := 1) rfl)) rfl
theorem wd_7_2 : (Jvm.Cond.code ({ cls := "PathDecoderModel", name := "talk", desc := "(IIII)I" } : Jvm.MethodName) prog_14_method_59_code (9 : Nat) (Option.some Jvm.ClassFile.FieldType.int)) ∈ pd_B := pd_in1 (tb_7 _ (List.mem_of_getElem? (i := 2) rfl)) rfl
theorem wd_7_3 : (Jvm.Cond.methodLink "PathDecoderModel" (285 : Nat) ({ cls := "PathDecoderModel", name := "half", desc := "(IIIZ)V" } : Jvm.MethodName)) ∈ pd_B := pd_in1 (tb_7 _ (List.mem_of_getElem? (i := 3) rfl)) rfl
theorem wd_7_5 : (Jvm.Cond.instanceMethod ({ cls := "PathDecoderModel", name := "half", desc := "(IIIZ)V" } : Jvm.MethodName)) ∈ pd_B := pd_in1 (tb_7 _ (List.mem_of_getElem? (i := 5) rfl)) rfl
theorem wd_7_6 : (Jvm.Cond.code ({ cls := "PathDecoderModel", name := "half", desc := "(IIIZ)V" } : Jvm.MethodName) prog_14_method_58_code (7 : Nat) (Option.none : Option Jvm.ClassFile.FieldType)) ∈ pd_B := pd_in1 (tb_7 _ (List.mem_of_getElem? (i := 6) rfl)) rfl
theorem wd_7_7 : (Jvm.Cond.methodLink "PathDecoderModel" (277 : Nat) ({ cls := "PathDecoderModel", name := "halfCosts", desc := "(IIIZ)V" } : Jvm.MethodName)) ∈ pd_B := pd_in1 (tb_7 _ (List.mem_of_getElem? (i := 7) rfl)) rfl
theorem wd_7_9 : (Jvm.Cond.instanceMethod ({ cls := "PathDecoderModel", name := "halfCosts", desc := "(IIIZ)V" } : Jvm.MethodName)) ∈ pd_B := pd_in1 (tb_7 _ (List.mem_of_getElem? (i := 9) rfl)) rfl
theorem wd_7_10 : (Jvm.Cond.code ({ cls := "PathDecoderModel", name := "halfCosts", desc := "(IIIZ)V" } : Jvm.MethodName) prog_14_method_57_code (14 : Nat) (Option.none : Option Jvm.ClassFile.FieldType)) ∈ pd_B := pd_in1 (tb_7 _ (List.mem_of_getElem? (i := 10) rfl)) rfl
theorem wd_7_11 : (Jvm.Cond.methodLink "PathDecoderModel" (274 : Nat) ({ cls := "java/lang/Math", name := "max", desc := "(II)I" } : Jvm.MethodName)) ∈ pd_B := pd_in1 (tb_7 _ (List.mem_of_getElem? (i := 11) rfl)) rfl
theorem wd_7_12 : (Jvm.Cond.methodLink "PathDecoderLaw" (168 : Nat) ({ cls := "PathDecoderModel", name := "agreed", desc := "()Z" } : Jvm.MethodName)) ∈ pd_B := pd_in1 (tb_7 _ (List.mem_of_getElem? (i := 12) rfl)) rfl
theorem wd_7_13 : (Jvm.Cond.instanceMethod ({ cls := "PathDecoderModel", name := "agreed", desc := "()Z" } : Jvm.MethodName)) ∈ pd_B := pd_in1 (tb_7 _ (List.mem_of_getElem? (i := 13) rfl)) rfl
theorem wd_7_14 : (Jvm.Cond.selects "PathDecoderModel" ({ cls := "PathDecoderModel", name := "agreed", desc := "()Z" } : Jvm.MethodName) ({ cls := "PathDecoderModel", name := "agreed", desc := "()Z" } : Jvm.MethodName)) ∈ pd_B := pd_in1 (tb_7 _ (List.mem_of_getElem? (i := 14) rfl)) rfl
theorem wd_7_15 : (Jvm.Cond.code ({ cls := "PathDecoderModel", name := "agreed", desc := "()Z" } : Jvm.MethodName) prog_14_method_60_code (1 : Nat) (Option.some Jvm.ClassFile.FieldType.boolean)) ∈ pd_B := pd_in1 (tb_7 _ (List.mem_of_getElem? (i := 15) rfl)) rfl
theorem wd_7_16 : (Jvm.Cond.methodLink "PathDecoderLaw" (172 : Nat) ({ cls := "PathDecoderModel", name := "seems", desc := "(I)I" } : Jvm.MethodName)) ∈ pd_B := pd_in1 (tb_7 _ (List.mem_of_getElem? (i := 16) rfl)) rfl
theorem wd_7_17 : (Jvm.Cond.instanceMethod ({ cls := "PathDecoderModel", name := "seems", desc := "(I)I" } : Jvm.MethodName)) ∈ pd_B := pd_in1 (tb_7 _ (List.mem_of_getElem? (i := 17) rfl)) rfl
theorem wd_7_18 : (Jvm.Cond.selects "PathDecoderModel" ({ cls := "PathDecoderModel", name := "seems", desc := "(I)I" } : Jvm.MethodName) ({ cls := "PathDecoderModel", name := "seems", desc := "(I)I" } : Jvm.MethodName)) ∈ pd_B := pd_in1 (tb_7 _ (List.mem_of_getElem? (i := 18) rfl)) rfl
theorem wd_7_19 : (Jvm.Cond.code ({ cls := "PathDecoderModel", name := "seems", desc := "(I)I" } : Jvm.MethodName) prog_14_method_61_code (2 : Nat) (Option.some Jvm.ClassFile.FieldType.int)) ∈ pd_B := pd_in1 (tb_7 _ (List.mem_of_getElem? (i := 19) rfl)) rfl
theorem wd_7_20 : (Jvm.Cond.methodLink "PathDecoderLaw" (175 : Nat) ({ cls := "PathDecoderModel", name := "way", desc := "(II)I" } : Jvm.MethodName)) ∈ pd_B := pd_in1 (tb_7 _ (List.mem_of_getElem? (i := 20) rfl)) rfl
theorem wd_7_21 : (Jvm.Cond.instanceMethod ({ cls := "PathDecoderModel", name := "way", desc := "(II)I" } : Jvm.MethodName)) ∈ pd_B := pd_in1 (tb_7 _ (List.mem_of_getElem? (i := 21) rfl)) rfl
theorem wd_7_22 : (Jvm.Cond.selects "PathDecoderModel" ({ cls := "PathDecoderModel", name := "way", desc := "(II)I" } : Jvm.MethodName) ({ cls := "PathDecoderModel", name := "way", desc := "(II)I" } : Jvm.MethodName)) ∈ pd_B := pd_in1 (tb_7 _ (List.mem_of_getElem? (i := 22) rfl)) rfl
theorem wd_7_23 : (Jvm.Cond.code ({ cls := "PathDecoderModel", name := "way", desc := "(II)I" } : Jvm.MethodName) prog_14_method_62_code (3 : Nat) (Option.some Jvm.ClassFile.FieldType.int)) ∈ pd_B := pd_in1 (tb_7 _ (List.mem_of_getElem? (i := 23) rfl)) rfl
theorem wd_7_24 : (Jvm.Cond.methodLink "PathDecoderLaw" (178 : Nat) ({ cls := "PathDecoderModel", name := "take", desc := "(II)I" } : Jvm.MethodName)) ∈ pd_B := pd_in1 (tb_7 _ (List.mem_of_getElem? (i := 24) rfl)) rfl
theorem wd_7_25 : (Jvm.Cond.instanceMethod ({ cls := "PathDecoderModel", name := "take", desc := "(II)I" } : Jvm.MethodName)) ∈ pd_B := pd_in1 (tb_7 _ (List.mem_of_getElem? (i := 25) rfl)) rfl
theorem wd_7_26 : (Jvm.Cond.selects "PathDecoderModel" ({ cls := "PathDecoderModel", name := "take", desc := "(II)I" } : Jvm.MethodName) ({ cls := "PathDecoderModel", name := "take", desc := "(II)I" } : Jvm.MethodName)) ∈ pd_B := pd_in1 (tb_7 _ (List.mem_of_getElem? (i := 26) rfl)) rfl
theorem wd_7_27 : (Jvm.Cond.code ({ cls := "PathDecoderModel", name := "take", desc := "(II)I" } : Jvm.MethodName) prog_14_method_63_code (4 : Nat) (Option.some Jvm.ClassFile.FieldType.int)) ∈ pd_B := pd_in1 (tb_7 _ (List.mem_of_getElem? (i := 27) rfl)) rfl
theorem wd_7_28 : (Jvm.Cond.methodLink "PathDecoderLaw" (181 : Nat) ({ cls := "PathDecoderModel", name := "bad", desc := "(I)Z" } : Jvm.MethodName)) ∈ pd_B := pd_in1 (tb_7 _ (List.mem_of_getElem? (i := 28) rfl)) rfl
theorem wd_7_29 : (Jvm.Cond.instanceMethod ({ cls := "PathDecoderModel", name := "bad", desc := "(I)Z" } : Jvm.MethodName)) ∈ pd_B := pd_in1 (tb_7 _ (List.mem_of_getElem? (i := 29) rfl)) rfl
theorem wd_7_30 : (Jvm.Cond.selects "PathDecoderModel" ({ cls := "PathDecoderModel", name := "bad", desc := "(I)Z" } : Jvm.MethodName) ({ cls := "PathDecoderModel", name := "bad", desc := "(I)Z" } : Jvm.MethodName)) ∈ pd_B := pd_in1 (tb_7 _ (List.mem_of_getElem? (i := 30) rfl)) rfl
theorem wd_7_31 : (Jvm.Cond.code ({ cls := "PathDecoderModel", name := "bad", desc := "(I)Z" } : Jvm.MethodName) prog_14_method_67_code (2 : Nat) (Option.some Jvm.ClassFile.FieldType.boolean)) ∈ pd_B := pd_in1 (tb_7 _ (List.mem_of_getElem? (i := 31) rfl)) rfl
theorem wd_7_32 : (Jvm.Cond.methodLink "PathDecoderModel" (291 : Nat) ({ cls := "PathDecoderModel", name := "isOpen", desc := "(I)Z" } : Jvm.MethodName)) ∈ pd_B := pd_in1 (tb_7 _ (List.mem_of_getElem? (i := 32) rfl)) rfl
theorem wd_7_34 : (Jvm.Cond.instanceMethod ({ cls := "PathDecoderModel", name := "isOpen", desc := "(I)Z" } : Jvm.MethodName)) ∈ pd_B := pd_in1 (tb_7 _ (List.mem_of_getElem? (i := 34) rfl)) rfl
theorem wd_7_35 : (Jvm.Cond.code ({ cls := "PathDecoderModel", name := "isOpen", desc := "(I)Z" } : Jvm.MethodName) prog_14_method_65_code (2 : Nat) (Option.some Jvm.ClassFile.FieldType.boolean)) ∈ pd_B := pd_in1 (tb_7 _ (List.mem_of_getElem? (i := 35) rfl)) rfl
theorem wd_7_36 : (Jvm.Cond.methodLink "PathDecoderModel" (294 : Nat) ({ cls := "PathDecoderModel", name := "isBad", desc := "(I)Z" } : Jvm.MethodName)) ∈ pd_B := pd_in1 (tb_7 _ (List.mem_of_getElem? (i := 36) rfl)) rfl
theorem wd_7_38 : (Jvm.Cond.instanceMethod ({ cls := "PathDecoderModel", name := "isBad", desc := "(I)Z" } : Jvm.MethodName)) ∈ pd_B := pd_in1 (tb_7 _ (List.mem_of_getElem? (i := 38) rfl)) rfl
theorem wd_7_39 : (Jvm.Cond.code ({ cls := "PathDecoderModel", name := "isBad", desc := "(I)Z" } : Jvm.MethodName) prog_14_method_66_code (8 : Nat) (Option.some Jvm.ClassFile.FieldType.boolean)) ∈ pd_B := pd_in1 (tb_7 _ (List.mem_of_getElem? (i := 39) rfl)) rfl
theorem wd_7_40 : (Jvm.Cond.methodLink "PathDecoderModel" (288 : Nat) ({ cls := "PathDecoderModel", name := "weight", desc := "(III)I" } : Jvm.MethodName)) ∈ pd_B := pd_in1 (tb_7 _ (List.mem_of_getElem? (i := 40) rfl)) rfl
theorem wd_7_42 : (Jvm.Cond.instanceMethod ({ cls := "PathDecoderModel", name := "weight", desc := "(III)I" } : Jvm.MethodName)) ∈ pd_B := pd_in1 (tb_7 _ (List.mem_of_getElem? (i := 42) rfl)) rfl
theorem wd_7_43 : (Jvm.Cond.code ({ cls := "PathDecoderModel", name := "weight", desc := "(III)I" } : Jvm.MethodName) prog_14_method_64_code (6 : Nat) (Option.some Jvm.ClassFile.FieldType.int)) ∈ pd_B := pd_in1 (tb_7 _ (List.mem_of_getElem? (i := 43) rfl)) rfl
theorem wd_7_44 : (Jvm.Cond.methodLink "PathDecoderLaw" (184 : Nat) ({ cls := "PathDecoderModel", name := "free", desc := "(I)I" } : Jvm.MethodName)) ∈ pd_B := pd_in1 (tb_7 _ (List.mem_of_getElem? (i := 44) rfl)) rfl
theorem wd_7_45 : (Jvm.Cond.instanceMethod ({ cls := "PathDecoderModel", name := "free", desc := "(I)I" } : Jvm.MethodName)) ∈ pd_B := pd_in1 (tb_7 _ (List.mem_of_getElem? (i := 45) rfl)) rfl
theorem wd_7_46 : (Jvm.Cond.selects "PathDecoderModel" ({ cls := "PathDecoderModel", name := "free", desc := "(I)I" } : Jvm.MethodName) ({ cls := "PathDecoderModel", name := "free", desc := "(I)I" } : Jvm.MethodName)) ∈ pd_B := pd_in1 (tb_7 _ (List.mem_of_getElem? (i := 46) rfl)) rfl
theorem wd_7_47 : (Jvm.Cond.code ({ cls := "PathDecoderModel", name := "free", desc := "(I)I" } : Jvm.MethodName) prog_14_method_68_code (9 : Nat) (Option.some Jvm.ClassFile.FieldType.int)) ∈ pd_B := pd_in1 (tb_7 _ (List.mem_of_getElem? (i := 47) rfl)) rfl
theorem wd_7_48 : (Jvm.Cond.methodLink "PathDecoderLaw" (187 : Nat) ({ cls := "PathDecoderModel", name := "weights", desc := "(II)J" } : Jvm.MethodName)) ∈ pd_B := pd_in1 (tb_7 _ (List.mem_of_getElem? (i := 48) rfl)) rfl
theorem wd_7_49 : (Jvm.Cond.instanceMethod ({ cls := "PathDecoderModel", name := "weights", desc := "(II)J" } : Jvm.MethodName)) ∈ pd_B := pd_in1 (tb_7 _ (List.mem_of_getElem? (i := 49) rfl)) rfl
theorem wd_7_50 : (Jvm.Cond.selects "PathDecoderModel" ({ cls := "PathDecoderModel", name := "weights", desc := "(II)J" } : Jvm.MethodName) ({ cls := "PathDecoderModel", name := "weights", desc := "(II)J" } : Jvm.MethodName)) ∈ pd_B := pd_in1 (tb_7 _ (List.mem_of_getElem? (i := 50) rfl)) rfl
theorem wd_7_51 : (Jvm.Cond.code ({ cls := "PathDecoderModel", name := "weights", desc := "(II)J" } : Jvm.MethodName) prog_14_method_69_code (11 : Nat) (Option.some Jvm.ClassFile.FieldType.long)) ∈ pd_B := pd_in1 (tb_7 _ (List.mem_of_getElem? (i := 51) rfl)) rfl
theorem wd_7_52 : (Jvm.Cond.constantLong "PathDecoderModel" (297 : Nat) (-1 : Int64)) ∈ pd_B := pd_in1 (tb_7 _ (List.mem_of_getElem? (i := 52) rfl)) rfl
theorem wd_7_53 : (Jvm.Cond.methodLink "PathDecoderModel" (299 : Nat) ({ cls := "PathDecoderModel", name := "settles", desc := "(III)V" } : Jvm.MethodName)) ∈ pd_B := pd_in1 (tb_7 _ (List.mem_of_getElem? (i := 53) rfl)) rfl
theorem wd_7_55 : (Jvm.Cond.instanceMethod ({ cls := "PathDecoderModel", name := "settles", desc := "(III)V" } : Jvm.MethodName)) ∈ pd_B := pd_in1 (tb_7 _ (List.mem_of_getElem? (i := 55) rfl)) rfl
theorem wd_7_56 : (Jvm.Cond.code ({ cls := "PathDecoderModel", name := "settles", desc := "(III)V" } : Jvm.MethodName) prog_14_method_70_code (7 : Nat) (Option.none : Option Jvm.ClassFile.FieldType)) ∈ pd_B := pd_in1 (tb_7 _ (List.mem_of_getElem? (i := 56) rfl)) rfl
theorem ws_1_0 : Cond.selects "PathDecoder" (⟨"PathDecoder", "rowOf", "(I)LPathDecoder$Row;"⟩ : MethodName) ⟨"PathDecoder", "rowOf", "(I)LPathDecoder$Row;"⟩ ∈ pd_B := pd_in1 (tb_sel (q := (⟨"PathDecoder", "rowOf", "(I)LPathDecoder$Row;"⟩, _)) (List.mem_append_left _ (List.mem_of_getElem? (i := 0) rfl))) rfl
theorem ws_1_1 : Cond.selects "java/lang/Throwable" (⟨"java/lang/Throwable", "fillInStackTrace", "(I)Ljava/lang/Throwable;"⟩ : MethodName) ⟨"java/lang/Throwable", "fillInStackTrace", "(I)Ljava/lang/Throwable;"⟩ ∈ pd_B := pd_in1 (tb_sel (q := (⟨"java/lang/Throwable", "fillInStackTrace", "(I)Ljava/lang/Throwable;"⟩, _)) (List.mem_append_left _ (List.mem_of_getElem? (i := 1) rfl))) rfl
theorem ws_1_2 : Cond.selects "PathDecoder" (⟨"PathDecoder", "rowWithNumber", "(II)LPathDecoder$Row;"⟩ : MethodName) ⟨"PathDecoder", "rowWithNumber", "(II)LPathDecoder$Row;"⟩ ∈ pd_B := pd_in1 (tb_sel (q := (⟨"PathDecoder", "rowWithNumber", "(II)LPathDecoder$Row;"⟩, _)) (List.mem_append_left _ (List.mem_of_getElem? (i := 2) rfl))) rfl
theorem ws_1_3 : Cond.selects "PathDecoder" (⟨"PathDecoder", "rowThere", "(I)LPathDecoder$Row;"⟩ : MethodName) ⟨"PathDecoder", "rowThere", "(I)LPathDecoder$Row;"⟩ ∈ pd_B := pd_in1 (tb_sel (q := (⟨"PathDecoder", "rowThere", "(I)LPathDecoder$Row;"⟩, _)) (List.mem_append_left _ (List.mem_of_getElem? (i := 3) rfl))) rfl
theorem ws_1_4 : Cond.selects "PathDecoder" (⟨"PathDecoder", "codeOf", "(I)LPathDecoder$Code;"⟩ : MethodName) ⟨"PathDecoder", "codeOf", "(I)LPathDecoder$Code;"⟩ ∈ pd_B := pd_in1 (tb_sel (q := (⟨"PathDecoder", "codeOf", "(I)LPathDecoder$Code;"⟩, _)) (List.mem_append_left _ (List.mem_of_getElem? (i := 4) rfl))) rfl
theorem ws_1_5 : Cond.selects "PathDecoder$Message" (⟨"PathDecoder$Message", "ringBeginning", "(LPathDecoder$Code;I)I"⟩ : MethodName) ⟨"PathDecoder$Message", "ringBeginning", "(LPathDecoder$Code;I)I"⟩ ∈ pd_B := pd_in1 (tb_sel (q := (⟨"PathDecoder$Message", "ringBeginning", "(LPathDecoder$Code;I)I"⟩, _)) (List.mem_append_left _ (List.mem_of_getElem? (i := 5) rfl))) rfl
theorem ws_1_6 : Cond.selects "PathDecoder$Message" (⟨"PathDecoder$Message", "encodeFirst", "(LPathDecoder$Code;II)V"⟩ : MethodName) ⟨"PathDecoder$Message", "encodeFirst", "(LPathDecoder$Code;II)V"⟩ ∈ pd_B := pd_in1 (tb_sel (q := (⟨"PathDecoder$Message", "encodeFirst", "(LPathDecoder$Code;II)V"⟩, _)) (List.mem_append_left _ (List.mem_of_getElem? (i := 6) rfl))) rfl
theorem ws_1_7 : Cond.selects "PathDecoder$Message" (⟨"PathDecoder$Message", "encodeSecond", "(LPathDecoder$Code;I)V"⟩ : MethodName) ⟨"PathDecoder$Message", "encodeSecond", "(LPathDecoder$Code;I)V"⟩ ∈ pd_B := pd_in1 (tb_sel (q := (⟨"PathDecoder$Message", "encodeSecond", "(LPathDecoder$Code;I)V"⟩, _)) (List.mem_append_left _ (List.mem_of_getElem? (i := 7) rfl))) rfl
theorem ws_1_8 : Cond.selects "PathDecoder" (⟨"PathDecoder", "prepare", "(LPathDecoder$Code;LPathDecoder$Row;I)V"⟩ : MethodName) ⟨"PathDecoder", "prepare", "(LPathDecoder$Code;LPathDecoder$Row;I)V"⟩ ∈ pd_B := pd_in1 (tb_sel (q := (⟨"PathDecoder", "prepare", "(LPathDecoder$Code;LPathDecoder$Row;I)V"⟩, _)) (List.mem_append_left _ (List.mem_of_getElem? (i := 8) rfl))) rfl
theorem ws_1_9 : Cond.selects "PathDecoder$Lattice" (⟨"PathDecoder$Lattice", "tailPrice", "(III)I"⟩ : MethodName) ⟨"PathDecoder$Lattice", "tailPrice", "(III)I"⟩ ∈ pd_B := pd_in1 (tb_sel (q := (⟨"PathDecoder$Lattice", "tailPrice", "(III)I"⟩, _)) (List.mem_append_left _ (List.mem_of_getElem? (i := 9) rfl))) rfl
theorem ws_1_10 : Cond.selects "PathDecoder$Search" (⟨"PathDecoder$Search", "isWorthwhile", "(II)Z"⟩ : MethodName) ⟨"PathDecoder$Search", "isWorthwhile", "(II)Z"⟩ ∈ pd_B := pd_in1 (tb_sel (q := (⟨"PathDecoder$Search", "isWorthwhile", "(II)Z"⟩, _)) (List.mem_append_left _ (List.mem_of_getElem? (i := 10) rfl))) rfl
theorem ws_1_11 : Cond.selects "PathDecoder$Search" (⟨"PathDecoder$Search", "comeBack", "(II)V"⟩ : MethodName) ⟨"PathDecoder$Search", "comeBack", "(II)V"⟩ ∈ pd_B := pd_in1 (tb_sel (q := (⟨"PathDecoder$Search", "comeBack", "(II)V"⟩, _)) (List.mem_append_left _ (List.mem_of_getElem? (i := 11) rfl))) rfl
theorem ws_1_12 : Cond.selects "PathDecoder$Search" (⟨"PathDecoder$Search", "merge", "(III)V"⟩ : MethodName) ⟨"PathDecoder$Search", "merge", "(III)V"⟩ ∈ pd_B := pd_in1 (tb_sel (q := (⟨"PathDecoder$Search", "merge", "(III)V"⟩, _)) (List.mem_append_left _ (List.mem_of_getElem? (i := 12) rfl))) rfl
theorem ws_1_13 : Cond.selects "PathDecoder$Search" (⟨"PathDecoder$Search", "follow", "(III)V"⟩ : MethodName) ⟨"PathDecoder$Search", "follow", "(III)V"⟩ ∈ pd_B := pd_in1 (tb_sel (q := (⟨"PathDecoder$Search", "follow", "(III)V"⟩, _)) (List.mem_append_left _ (List.mem_of_getElem? (i := 13) rfl))) rfl
theorem ws_1_14 : Cond.selects "PathDecoder$Search" (⟨"PathDecoder$Search", "offerAll", "(II)V"⟩ : MethodName) ⟨"PathDecoder$Search", "offerAll", "(II)V"⟩ ∈ pd_B := pd_in1 (tb_sel (q := (⟨"PathDecoder$Search", "offerAll", "(II)V"⟩, _)) (List.mem_append_left _ (List.mem_of_getElem? (i := 14) rfl))) rfl
theorem ws_1_15 : Cond.selects "PathDecoder$Search" (⟨"PathDecoder$Search", "goOn", "(IZ)V"⟩ : MethodName) ⟨"PathDecoder$Search", "goOn", "(IZ)V"⟩ ∈ pd_B := pd_in1 (tb_sel (q := (⟨"PathDecoder$Search", "goOn", "(IZ)V"⟩, _)) (List.mem_append_left _ (List.mem_of_getElem? (i := 15) rfl))) rfl
theorem ws_2_0 : Cond.selects "PathDecoder$Search" (⟨"PathDecoder$Search", "thin", "(I)V"⟩ : MethodName) ⟨"PathDecoder$Search", "thin", "(I)V"⟩ ∈ pd_B := pd_in1 (tb_sel (q := (⟨"PathDecoder$Search", "thin", "(I)V"⟩, _)) (List.mem_append_right _ (List.mem_append_left _ (List.mem_of_getElem? (i := 0) rfl)))) rfl
theorem ws_2_1 : Cond.selects "PathDecoder$Search" (⟨"PathDecoder$Search", "cheapestState", "()I"⟩ : MethodName) ⟨"PathDecoder$Search", "cheapestState", "()I"⟩ ∈ pd_B := pd_in1 (tb_sel (q := (⟨"PathDecoder$Search", "cheapestState", "()I"⟩, _)) (List.mem_append_right _ (List.mem_append_left _ (List.mem_of_getElem? (i := 1) rfl)))) rfl
theorem ws_2_2 : Cond.selects "PathDecoder$Search" (⟨"PathDecoder$Search", "goBack", "(III)V"⟩ : MethodName) ⟨"PathDecoder$Search", "goBack", "(III)V"⟩ ∈ pd_B := pd_in1 (tb_sel (q := (⟨"PathDecoder$Search", "goBack", "(III)V"⟩, _)) (List.mem_append_right _ (List.mem_append_left _ (List.mem_of_getElem? (i := 2) rfl)))) rfl
theorem ws_2_3 : Cond.selects "PathDecoder$Seeming" (⟨"PathDecoder$Seeming", "reach", "(II)V"⟩ : MethodName) ⟨"PathDecoder$Seeming", "reach", "(II)V"⟩ ∈ pd_B := pd_in1 (tb_sel (q := (⟨"PathDecoder$Seeming", "reach", "(II)V"⟩, _)) (List.mem_append_right _ (List.mem_append_left _ (List.mem_of_getElem? (i := 3) rfl)))) rfl
theorem ws_2_4 : Cond.selects "PathDecoder$Seeming" (⟨"PathDecoder$Seeming", "meet", "(I)V"⟩ : MethodName) ⟨"PathDecoder$Seeming", "meet", "(I)V"⟩ ∈ pd_B := pd_in1 (tb_sel (q := (⟨"PathDecoder$Seeming", "meet", "(I)V"⟩, _)) (List.mem_append_right _ (List.mem_append_left _ (List.mem_of_getElem? (i := 4) rfl)))) rfl
theorem ws_2_5 : Cond.selects "PathDecoder$Seeming" (⟨"PathDecoder$Seeming", "behind", "(II)I"⟩ : MethodName) ⟨"PathDecoder$Seeming", "behind", "(II)I"⟩ ∈ pd_B := pd_in1 (tb_sel (q := (⟨"PathDecoder$Seeming", "behind", "(II)I"⟩, _)) (List.mem_append_right _ (List.mem_append_left _ (List.mem_of_getElem? (i := 5) rfl)))) rfl
theorem ws_2_6 : Cond.selects "PathDecoder$Turns" (⟨"PathDecoder$Turns", "doHalf", "(LPathDecoder$Code;IZ)V"⟩ : MethodName) ⟨"PathDecoder$Turns", "doHalf", "(LPathDecoder$Code;IZ)V"⟩ ∈ pd_B := pd_in1 (tb_sel (q := (⟨"PathDecoder$Turns", "doHalf", "(LPathDecoder$Code;IZ)V"⟩, _)) (List.mem_append_right _ (List.mem_append_left _ (List.mem_of_getElem? (i := 6) rfl)))) rfl
theorem ws_2_7 : Cond.selects "PathDecoder$Turns" (⟨"PathDecoder$Turns", "price", "(LPathDecoder$Code;IIZ)V"⟩ : MethodName) ⟨"PathDecoder$Turns", "price", "(LPathDecoder$Code;IIZ)V"⟩ ∈ pd_B := pd_in1 (tb_sel (q := (⟨"PathDecoder$Turns", "price", "(LPathDecoder$Code;IIZ)V"⟩, _)) (List.mem_append_right _ (List.mem_append_left _ (List.mem_of_getElem? (i := 7) rfl)))) rfl
theorem ws_2_8 : Cond.selects "PathDecoder$Turns" (⟨"PathDecoder$Turns", "sayTheSame", "(I)Z"⟩ : MethodName) ⟨"PathDecoder$Turns", "sayTheSame", "(I)Z"⟩ ∈ pd_B := pd_in1 (tb_sel (q := (⟨"PathDecoder$Turns", "sayTheSame", "(I)Z"⟩, _)) (List.mem_append_right _ (List.mem_append_left _ (List.mem_of_getElem? (i := 8) rfl)))) rfl
theorem ws_2_9 : Cond.selects "PathDecoder" (⟨"PathDecoder", "wayOf", "(I)LPathDecoder$Way;"⟩ : MethodName) ⟨"PathDecoder", "wayOf", "(I)LPathDecoder$Way;"⟩ ∈ pd_B := pd_in1 (tb_sel (q := (⟨"PathDecoder", "wayOf", "(I)LPathDecoder$Way;"⟩, _)) (List.mem_append_right _ (List.mem_append_left _ (List.mem_of_getElem? (i := 9) rfl)))) rfl
theorem ws_2_10 : Cond.selects "PathDecoder" (⟨"PathDecoder", "codeWithWeight", "(I)LPathDecoder$Code;"⟩ : MethodName) ⟨"PathDecoder", "codeWithWeight", "(I)LPathDecoder$Code;"⟩ ∈ pd_B := pd_in1 (tb_sel (q := (⟨"PathDecoder", "codeWithWeight", "(I)LPathDecoder$Code;"⟩, _)) (List.mem_append_right _ (List.mem_append_left _ (List.mem_of_getElem? (i := 10) rfl)))) rfl
theorem ws_2_11 : Cond.selects "PathDecoder$Spectrum" (⟨"PathDecoder$Spectrum", "isSilent", "(I)Z"⟩ : MethodName) ⟨"PathDecoder$Spectrum", "isSilent", "(I)Z"⟩ ∈ pd_B := pd_in1 (tb_sel (q := (⟨"PathDecoder$Spectrum", "isSilent", "(I)Z"⟩, _)) (List.mem_append_right _ (List.mem_append_left _ (List.mem_of_getElem? (i := 11) rfl)))) rfl
theorem ws_2_12 : Cond.selects "PathDecoder$Spectrum" (⟨"PathDecoder$Spectrum", "weightOf", "(I)I"⟩ : MethodName) ⟨"PathDecoder$Spectrum", "weightOf", "(I)I"⟩ ∈ pd_B := pd_in1 (tb_sel (q := (⟨"PathDecoder$Spectrum", "weightOf", "(I)I"⟩, _)) (List.mem_append_right _ (List.mem_append_left _ (List.mem_of_getElem? (i := 12) rfl)))) rfl
theorem ws_2_13 : Cond.selects "PathDecoder$Spectrum" (⟨"PathDecoder$Spectrum", "addIfFree", "(I)V"⟩ : MethodName) ⟨"PathDecoder$Spectrum", "addIfFree", "(I)V"⟩ ∈ pd_B := pd_in1 (tb_sel (q := (⟨"PathDecoder$Spectrum", "addIfFree", "(I)V"⟩, _)) (List.mem_append_right _ (List.mem_append_left _ (List.mem_of_getElem? (i := 13) rfl)))) rfl
theorem ws_2_14 : Cond.selects "PathDecoder$Spectrum" (⟨"PathDecoder$Spectrum", "spread", "(III)V"⟩ : MethodName) ⟨"PathDecoder$Spectrum", "spread", "(III)V"⟩ ∈ pd_B := pd_in1 (tb_sel (q := (⟨"PathDecoder$Spectrum", "spread", "(III)V"⟩, _)) (List.mem_append_right _ (List.mem_append_left _ (List.mem_of_getElem? (i := 14) rfl)))) rfl
theorem ws_2_15 : Cond.selects "PathDecoderModel" (⟨"PathDecoderModel", "isRow", "(II)Z"⟩ : MethodName) ⟨"PathDecoderModel", "isRow", "(II)Z"⟩ ∈ pd_B := pd_in1 (tb_sel (q := (⟨"PathDecoderModel", "isRow", "(II)Z"⟩, _)) (List.mem_append_right _ (List.mem_append_left _ (List.mem_of_getElem? (i := 15) rfl)))) rfl
theorem ws_3_0 : Cond.selects "PathDecoderModel" (⟨"PathDecoderModel", "right", "(ZI)Z"⟩ : MethodName) ⟨"PathDecoderModel", "right", "(ZI)Z"⟩ ∈ pd_B := pd_in1 (tb_sel (q := (⟨"PathDecoderModel", "right", "(ZI)Z"⟩, _)) (List.mem_append_right _ (List.mem_append_right _ (List.mem_append_left _ (List.mem_of_getElem? (i := 0) rfl))))) rfl
theorem ws_3_1 : Cond.selects "PathDecoderModel" (⟨"PathDecoderModel", "wide", "(I)I"⟩ : MethodName) ⟨"PathDecoderModel", "wide", "(I)I"⟩ ∈ pd_B := pd_in1 (tb_sel (q := (⟨"PathDecoderModel", "wide", "(I)I"⟩, _)) (List.mem_append_right _ (List.mem_append_right _ (List.mem_append_left _ (List.mem_of_getElem? (i := 1) rfl))))) rfl
theorem ws_3_2 : Cond.selects "PathDecoderModel" (⟨"PathDecoderModel", "isCode", "(I)Z"⟩ : MethodName) ⟨"PathDecoderModel", "isCode", "(I)Z"⟩ ∈ pd_B := pd_in1 (tb_sel (q := (⟨"PathDecoderModel", "isCode", "(I)Z"⟩, _)) (List.mem_append_right _ (List.mem_append_right _ (List.mem_append_left _ (List.mem_of_getElem? (i := 2) rfl))))) rfl
theorem ws_3_3 : Cond.selects "PathDecoderModel" (⟨"PathDecoderModel", "isN", "(II)Z"⟩ : MethodName) ⟨"PathDecoderModel", "isN", "(II)Z"⟩ ∈ pd_B := pd_in1 (tb_sel (q := (⟨"PathDecoderModel", "isN", "(II)Z"⟩, _)) (List.mem_append_right _ (List.mem_append_right _ (List.mem_append_left _ (List.mem_of_getElem? (i := 3) rfl))))) rfl
theorem ws_3_4 : Cond.selects "PathDecoderModel" (⟨"PathDecoderModel", "takes", "(II)V"⟩ : MethodName) ⟨"PathDecoderModel", "takes", "(II)V"⟩ ∈ pd_B := pd_in1 (tb_sel (q := (⟨"PathDecoderModel", "takes", "(II)V"⟩, _)) (List.mem_append_right _ (List.mem_append_right _ (List.mem_append_left _ (List.mem_of_getElem? (i := 4) rfl))))) rfl
theorem ws_3_5 : Cond.selects "PathDecoderModel" (⟨"PathDecoderModel", "sent", "(II)I"⟩ : MethodName) ⟨"PathDecoderModel", "sent", "(II)I"⟩ ∈ pd_B := pd_in1 (tb_sel (q := (⟨"PathDecoderModel", "sent", "(II)I"⟩, _)) (List.mem_append_right _ (List.mem_append_right _ (List.mem_append_left _ (List.mem_of_getElem? (i := 5) rfl))))) rfl
theorem ws_3_6 : Cond.selects "PathDecoderModel" (⟨"PathDecoderModel", "ends", "(III)I"⟩ : MethodName) ⟨"PathDecoderModel", "ends", "(III)I"⟩ ∈ pd_B := pd_in1 (tb_sel (q := (⟨"PathDecoderModel", "ends", "(III)I"⟩, _)) (List.mem_append_right _ (List.mem_append_right _ (List.mem_append_left _ (List.mem_of_getElem? (i := 6) rfl))))) rfl
theorem ws_3_7 : Cond.selects "PathDecoderModel" (⟨"PathDecoderModel", "next", "(III)I"⟩ : MethodName) ⟨"PathDecoderModel", "next", "(III)I"⟩ ∈ pd_B := pd_in1 (tb_sel (q := (⟨"PathDecoderModel", "next", "(III)I"⟩, _)) (List.mem_append_right _ (List.mem_append_right _ (List.mem_append_left _ (List.mem_of_getElem? (i := 7) rfl))))) rfl
theorem ws_3_8 : Cond.selects "PathDecoderModel" (⟨"PathDecoderModel", "fed", "(II)I"⟩ : MethodName) ⟨"PathDecoderModel", "fed", "(II)I"⟩ ∈ pd_B := pd_in1 (tb_sel (q := (⟨"PathDecoderModel", "fed", "(II)I"⟩, _)) (List.mem_append_right _ (List.mem_append_right _ (List.mem_append_left _ (List.mem_of_getElem? (i := 8) rfl))))) rfl
theorem ws_3_9 : Cond.selects "PathDecoderModel" (⟨"PathDecoderModel", "isOrder", "(II)Z"⟩ : MethodName) ⟨"PathDecoderModel", "isOrder", "(II)Z"⟩ ∈ pd_B := pd_in1 (tb_sel (q := (⟨"PathDecoderModel", "isOrder", "(II)Z"⟩, _)) (List.mem_append_right _ (List.mem_append_right _ (List.mem_append_left _ (List.mem_of_getElem? (i := 9) rfl))))) rfl
theorem ws_3_10 : Cond.selects "PathDecoderModel" (⟨"PathDecoderModel", "order", "(III)I"⟩ : MethodName) ⟨"PathDecoderModel", "order", "(III)I"⟩ ∈ pd_B := pd_in1 (tb_sel (q := (⟨"PathDecoderModel", "order", "(III)I"⟩, _)) (List.mem_append_right _ (List.mem_append_right _ (List.mem_append_left _ (List.mem_of_getElem? (i := 10) rfl))))) rfl
theorem ws_3_11 : Cond.selects "PathDecoderModel" (⟨"PathDecoderModel", "steps", "(II)I"⟩ : MethodName) ⟨"PathDecoderModel", "steps", "(II)I"⟩ ∈ pd_B := pd_in1 (tb_sel (q := (⟨"PathDecoderModel", "steps", "(II)I"⟩, _)) (List.mem_append_right _ (List.mem_append_right _ (List.mem_append_left _ (List.mem_of_getElem? (i := 11) rfl))))) rfl
theorem ws_3_12 : Cond.selects "PathDecoderModel" (⟨"PathDecoderModel", "isKept", "(III)Z"⟩ : MethodName) ⟨"PathDecoderModel", "isKept", "(III)Z"⟩ ∈ pd_B := pd_in1 (tb_sel (q := (⟨"PathDecoderModel", "isKept", "(III)Z"⟩, _)) (List.mem_append_right _ (List.mem_append_right _ (List.mem_append_left _ (List.mem_of_getElem? (i := 12) rfl))))) rfl
theorem ws_3_13 : Cond.selects "PathDecoderModel" (⟨"PathDecoderModel", "out", "(IIII)I"⟩ : MethodName) ⟨"PathDecoderModel", "out", "(IIII)I"⟩ ∈ pd_B := pd_in1 (tb_sel (q := (⟨"PathDecoderModel", "out", "(IIII)I"⟩, _)) (List.mem_append_right _ (List.mem_append_right _ (List.mem_append_left _ (List.mem_of_getElem? (i := 13) rfl))))) rfl
theorem ws_3_14 : Cond.selects "PathDecoderModel" (⟨"PathDecoderModel", "sentAhead", "(II)I"⟩ : MethodName) ⟨"PathDecoderModel", "sentAhead", "(II)I"⟩ ∈ pd_B := pd_in1 (tb_sel (q := (⟨"PathDecoderModel", "sentAhead", "(II)I"⟩, _)) (List.mem_append_right _ (List.mem_append_right _ (List.mem_append_left _ (List.mem_of_getElem? (i := 14) rfl))))) rfl
theorem ws_3_15 : Cond.selects "PathDecoderModel" (⟨"PathDecoderModel", "sends", "(II)I"⟩ : MethodName) ⟨"PathDecoderModel", "sends", "(II)I"⟩ ∈ pd_B := pd_in1 (tb_sel (q := (⟨"PathDecoderModel", "sends", "(II)I"⟩, _)) (List.mem_append_right _ (List.mem_append_right _ (List.mem_append_left _ (List.mem_of_getElem? (i := 15) rfl))))) rfl
theorem ws_4_0 : Cond.selects "PathDecoderModel" (⟨"PathDecoderModel", "markCost", "(III)I"⟩ : MethodName) ⟨"PathDecoderModel", "markCost", "(III)I"⟩ ∈ pd_B := pd_in1 (tb_sel (q := (⟨"PathDecoderModel", "markCost", "(III)I"⟩, _)) (List.mem_append_right _ (List.mem_append_right _ (List.mem_append_right _ (List.mem_append_left _ (List.mem_of_getElem? (i := 0) rfl)))))) rfl
theorem ws_4_1 : Cond.selects "PathDecoderModel" (⟨"PathDecoderModel", "isDecoding", "(IIIZ)Z"⟩ : MethodName) ⟨"PathDecoderModel", "isDecoding", "(IIIZ)Z"⟩ ∈ pd_B := pd_in1 (tb_sel (q := (⟨"PathDecoderModel", "isDecoding", "(IIIZ)Z"⟩, _)) (List.mem_append_right _ (List.mem_append_right _ (List.mem_append_right _ (List.mem_append_left _ (List.mem_of_getElem? (i := 1) rfl)))))) rfl
theorem ws_4_2 : Cond.selects "PathDecoderModel" (⟨"PathDecoderModel", "lists", "(IIII)V"⟩ : MethodName) ⟨"PathDecoderModel", "lists", "(IIII)V"⟩ ∈ pd_B := pd_in1 (tb_sel (q := (⟨"PathDecoderModel", "lists", "(IIII)V"⟩, _)) (List.mem_append_right _ (List.mem_append_right _ (List.mem_append_right _ (List.mem_append_left _ (List.mem_of_getElem? (i := 2) rfl)))))) rfl
theorem ws_4_3 : Cond.selects "PathDecoderModel" (⟨"PathDecoderModel", "costs", "(III)V"⟩ : MethodName) ⟨"PathDecoderModel", "costs", "(III)V"⟩ ∈ pd_B := pd_in1 (tb_sel (q := (⟨"PathDecoderModel", "costs", "(III)V"⟩, _)) (List.mem_append_right _ (List.mem_append_right _ (List.mem_append_right _ (List.mem_append_left _ (List.mem_of_getElem? (i := 3) rfl)))))) rfl
theorem ws_4_4 : Cond.selects "PathDecoderModel" (⟨"PathDecoderModel", "rests", "(IIII)V"⟩ : MethodName) ⟨"PathDecoderModel", "rests", "(IIII)V"⟩ ∈ pd_B := pd_in1 (tb_sel (q := (⟨"PathDecoderModel", "rests", "(IIII)V"⟩, _)) (List.mem_append_right _ (List.mem_append_right _ (List.mem_append_right _ (List.mem_append_left _ (List.mem_of_getElem? (i := 4) rfl)))))) rfl
theorem ws_4_5 : Cond.selects "PathDecoderModel" (⟨"PathDecoderModel", "rest", "(IIII)V"⟩ : MethodName) ⟨"PathDecoderModel", "rest", "(IIII)V"⟩ ∈ pd_B := pd_in1 (tb_sel (q := (⟨"PathDecoderModel", "rest", "(IIII)V"⟩, _)) (List.mem_append_right _ (List.mem_append_right _ (List.mem_append_right _ (List.mem_append_left _ (List.mem_of_getElem? (i := 5) rfl)))))) rfl
theorem ws_4_6 : Cond.selects "PathDecoderModel" (⟨"PathDecoderModel", "tells", "(IIIII)V"⟩ : MethodName) ⟨"PathDecoderModel", "tells", "(IIIII)V"⟩ ∈ pd_B := pd_in1 (tb_sel (q := (⟨"PathDecoderModel", "tells", "(IIIII)V"⟩, _)) (List.mem_append_right _ (List.mem_append_right _ (List.mem_append_right _ (List.mem_append_left _ (List.mem_of_getElem? (i := 6) rfl)))))) rfl
theorem ws_4_7 : Cond.selects "PathDecoderModel" (⟨"PathDecoderModel", "joins", "(IIIII)Z"⟩ : MethodName) ⟨"PathDecoderModel", "joins", "(IIIII)Z"⟩ ∈ pd_B := pd_in1 (tb_sel (q := (⟨"PathDecoderModel", "joins", "(IIIII)Z"⟩, _)) (List.mem_append_right _ (List.mem_append_right _ (List.mem_append_right _ (List.mem_append_left _ (List.mem_of_getElem? (i := 7) rfl)))))) rfl
theorem ws_4_8 : Cond.selects "PathDecoderModel" (⟨"PathDecoderModel", "isBefore", "(IIIII)Z"⟩ : MethodName) ⟨"PathDecoderModel", "isBefore", "(IIIII)Z"⟩ ∈ pd_B := pd_in1 (tb_sel (q := (⟨"PathDecoderModel", "isBefore", "(IIIII)Z"⟩, _)) (List.mem_append_right _ (List.mem_append_right _ (List.mem_append_right _ (List.mem_append_left _ (List.mem_of_getElem? (i := 8) rfl)))))) rfl
theorem ws_4_9 : Cond.selects "PathDecoderModel" (⟨"PathDecoderModel", "isAhead", "(III)Z"⟩ : MethodName) ⟨"PathDecoderModel", "isAhead", "(III)Z"⟩ ∈ pd_B := pd_in1 (tb_sel (q := (⟨"PathDecoderModel", "isAhead", "(III)Z"⟩, _)) (List.mem_append_right _ (List.mem_append_right _ (List.mem_append_right _ (List.mem_append_left _ (List.mem_of_getElem? (i := 9) rfl)))))) rfl
theorem ws_4_10 : Cond.selects "PathDecoderModel" (⟨"PathDecoderModel", "exchange", "(II)V"⟩ : MethodName) ⟨"PathDecoderModel", "exchange", "(II)V"⟩ ∈ pd_B := pd_in1 (tb_sel (q := (⟨"PathDecoderModel", "exchange", "(II)V"⟩, _)) (List.mem_append_right _ (List.mem_append_right _ (List.mem_append_right _ (List.mem_append_left _ (List.mem_of_getElem? (i := 10) rfl)))))) rfl
theorem ws_4_11 : Cond.selects "PathDecoderModel" (⟨"PathDecoderModel", "goes", "(IIII)V"⟩ : MethodName) ⟨"PathDecoderModel", "goes", "(IIII)V"⟩ ∈ pd_B := pd_in1 (tb_sel (q := (⟨"PathDecoderModel", "goes", "(IIII)V"⟩, _)) (List.mem_append_right _ (List.mem_append_right _ (List.mem_append_right _ (List.mem_append_left _ (List.mem_of_getElem? (i := 11) rfl)))))) rfl
theorem ws_4_12 : Cond.selects "PathDecoderModel" (⟨"PathDecoderModel", "prunes", "(II)V"⟩ : MethodName) ⟨"PathDecoderModel", "prunes", "(II)V"⟩ ∈ pd_B := pd_in1 (tb_sel (q := (⟨"PathDecoderModel", "prunes", "(II)V"⟩, _)) (List.mem_append_right _ (List.mem_append_right _ (List.mem_append_right _ (List.mem_append_left _ (List.mem_of_getElem? (i := 12) rfl)))))) rfl
theorem ws_4_13 : Cond.selects "PathDecoderModel" (⟨"PathDecoderModel", "clearLeasts", "(I)V"⟩ : MethodName) ⟨"PathDecoderModel", "clearLeasts", "(I)V"⟩ ∈ pd_B := pd_in1 (tb_sel (q := (⟨"PathDecoderModel", "clearLeasts", "(I)V"⟩, _)) (List.mem_append_right _ (List.mem_append_right _ (List.mem_append_right _ (List.mem_append_left _ (List.mem_of_getElem? (i := 13) rfl)))))) rfl
theorem ws_4_14 : Cond.selects "PathDecoderModel" (⟨"PathDecoderModel", "leasts", "(IIIZZ)V"⟩ : MethodName) ⟨"PathDecoderModel", "leasts", "(IIIZZ)V"⟩ ∈ pd_B := pd_in1 (tb_sel (q := (⟨"PathDecoderModel", "leasts", "(IIIZZ)V"⟩, _)) (List.mem_append_right _ (List.mem_append_right _ (List.mem_append_right _ (List.mem_append_left _ (List.mem_of_getElem? (i := 14) rfl)))))) rfl
theorem ws_4_15 : Cond.selects "PathDecoderModel" (⟨"PathDecoderModel", "difference", "(I)I"⟩ : MethodName) ⟨"PathDecoderModel", "difference", "(I)I"⟩ ∈ pd_B := pd_in1 (tb_sel (q := (⟨"PathDecoderModel", "difference", "(I)I"⟩, _)) (List.mem_append_right _ (List.mem_append_right _ (List.mem_append_right _ (List.mem_append_left _ (List.mem_of_getElem? (i := 15) rfl)))))) rfl
theorem ws_5_0 : Cond.selects "PathDecoderModel" (⟨"PathDecoderModel", "half", "(IIIZ)V"⟩ : MethodName) ⟨"PathDecoderModel", "half", "(IIIZ)V"⟩ ∈ pd_B := pd_in1 (tb_sel (q := (⟨"PathDecoderModel", "half", "(IIIZ)V"⟩, _)) (List.mem_append_right _ (List.mem_append_right _ (List.mem_append_right _ (List.mem_append_right _ (List.mem_of_getElem? (i := 0) rfl)))))) rfl
theorem ws_5_1 : Cond.selects "PathDecoderModel" (⟨"PathDecoderModel", "halfCosts", "(IIIZ)V"⟩ : MethodName) ⟨"PathDecoderModel", "halfCosts", "(IIIZ)V"⟩ ∈ pd_B := pd_in1 (tb_sel (q := (⟨"PathDecoderModel", "halfCosts", "(IIIZ)V"⟩, _)) (List.mem_append_right _ (List.mem_append_right _ (List.mem_append_right _ (List.mem_append_right _ (List.mem_of_getElem? (i := 1) rfl)))))) rfl
theorem ws_5_2 : Cond.selects "PathDecoderModel" (⟨"PathDecoderModel", "isOpen", "(I)Z"⟩ : MethodName) ⟨"PathDecoderModel", "isOpen", "(I)Z"⟩ ∈ pd_B := pd_in1 (tb_sel (q := (⟨"PathDecoderModel", "isOpen", "(I)Z"⟩, _)) (List.mem_append_right _ (List.mem_append_right _ (List.mem_append_right _ (List.mem_append_right _ (List.mem_of_getElem? (i := 2) rfl)))))) rfl
theorem ws_5_3 : Cond.selects "PathDecoderModel" (⟨"PathDecoderModel", "isBad", "(I)Z"⟩ : MethodName) ⟨"PathDecoderModel", "isBad", "(I)Z"⟩ ∈ pd_B := pd_in1 (tb_sel (q := (⟨"PathDecoderModel", "isBad", "(I)Z"⟩, _)) (List.mem_append_right _ (List.mem_append_right _ (List.mem_append_right _ (List.mem_append_right _ (List.mem_of_getElem? (i := 3) rfl)))))) rfl
theorem ws_5_4 : Cond.selects "PathDecoderModel" (⟨"PathDecoderModel", "weight", "(III)I"⟩ : MethodName) ⟨"PathDecoderModel", "weight", "(III)I"⟩ ∈ pd_B := pd_in1 (tb_sel (q := (⟨"PathDecoderModel", "weight", "(III)I"⟩, _)) (List.mem_append_right _ (List.mem_append_right _ (List.mem_append_right _ (List.mem_append_right _ (List.mem_of_getElem? (i := 4) rfl)))))) rfl
theorem ws_5_5 : Cond.selects "PathDecoderModel" (⟨"PathDecoderModel", "settles", "(III)V"⟩ : MethodName) ⟨"PathDecoderModel", "settles", "(III)V"⟩ ∈ pd_B := pd_in1 (tb_sel (q := (⟨"PathDecoderModel", "settles", "(III)V"⟩, _)) (List.mem_append_right _ (List.mem_append_right _ (List.mem_append_right _ (List.mem_append_right _ (List.mem_of_getElem? (i := 5) rfl)))))) rfl
theorem fw_0 : ∀ w ∈ u_ws RX0 TX0 8, w ∈ pd_B := by
  intro w hw
  obtain ⟨k, hk, rfl⟩ := List.mem_map.mp hw
  have hk := List.mem_range.mp hk
  match k, hk with
  | 0, _ => exact wd_3_76
  | 1, _ => exact wd_3_78
  | 2, _ => exact wd_3_80
  | 3, _ => exact wd_3_82
  | 4, _ => exact wd_3_84
  | 5, _ => exact wd_3_86
  | 6, _ => exact wd_3_88
  | 7, _ => exact wd_3_90
  | k + 8, h => omega
theorem fw_1 : ∀ w ∈ u_ws RX1 TX1 5, w ∈ pd_B := by
  intro w hw
  obtain ⟨k, hk, rfl⟩ := List.mem_map.mp hw
  have hk := List.mem_range.mp hk
  match k, hk with
  | 0, _ => exact wd_1_92
  | 1, _ => exact wd_1_94
  | 2, _ => exact wd_1_96
  | 3, _ => exact wd_1_98
  | 4, _ => exact wd_1_100
  | k + 5, h => omega
theorem fw_2 : ∀ w ∈ u_ws RX2 TX2 2, w ∈ pd_B := by
  intro w hw
  obtain ⟨k, hk, rfl⟩ := List.mem_map.mp hw
  have hk := List.mem_range.mp hk
  match k, hk with
  | 0, _ => exact wd_1_43
  | 1, _ => exact wd_1_45
  | k + 2, h => omega
theorem fw_3 : ∀ w ∈ u_ws RX3 TX3 4, w ∈ pd_B := by
  intro w hw
  obtain ⟨k, hk, rfl⟩ := List.mem_map.mp hw
  have hk := List.mem_range.mp hk
  match k, hk with
  | 0, _ => exact wd_1_63
  | 1, _ => exact wd_1_65
  | 2, _ => exact wd_1_67
  | 3, _ => exact wd_1_69
  | k + 4, h => omega
theorem fw_4 : ∀ w ∈ u_ws RX4 TX4 2, w ∈ pd_B := by
  intro w hw
  obtain ⟨k, hk, rfl⟩ := List.mem_map.mp hw
  have hk := List.mem_range.mp hk
  match k, hk with
  | 0, _ => exact wd_2_26
  | 1, _ => exact wd_2_28
  | k + 2, h => omega
theorem fw_5 : ∀ w ∈ u_ws RX5 TX5 8, w ∈ pd_B := by
  intro w hw
  obtain ⟨k, hk, rfl⟩ := List.mem_map.mp hw
  have hk := List.mem_range.mp hk
  match k, hk with
  | 0, _ => exact wd_1_160
  | 1, _ => exact wd_1_162
  | 2, _ => exact wd_1_164
  | 3, _ => exact wd_1_166
  | 4, _ => exact wd_1_168
  | 5, _ => exact wd_1_170
  | 6, _ => exact wd_1_172
  | 7, _ => exact wd_1_174
  | k + 8, h => omega
theorem fw_6 : ∀ w ∈ u_ws RX6 TX6 6, w ∈ pd_B := by
  intro w hw
  obtain ⟨k, hk, rfl⟩ := List.mem_map.mp hw
  have hk := List.mem_range.mp hk
  match k, hk with
  | 0, _ => exact wd_1_189
  | 1, _ => exact wd_1_191
  | 2, _ => exact wd_1_193
  | 3, _ => exact wd_1_195
  | 4, _ => exact wd_1_197
  | 5, _ => exact wd_1_199
  | k + 6, h => omega
theorem fw_7 : ∀ w ∈ u_ws RX7 TX7 6, w ∈ pd_B := by
  intro w hw
  obtain ⟨k, hk, rfl⟩ := List.mem_map.mp hw
  have hk := List.mem_range.mp hk
  match k, hk with
  | 0, _ => exact wd_2_5
  | 1, _ => exact wd_2_7
  | 2, _ => exact wd_2_9
  | 3, _ => exact wd_2_11
  | 4, _ => exact wd_2_13
  | 5, _ => exact wd_2_15
  | k + 6, h => omega
theorem fw_8 : ∀ w ∈ u_ws RX8 TX8 8, w ∈ pd_B := by
  intro w hw
  obtain ⟨k, hk, rfl⟩ := List.mem_map.mp hw
  have hk := List.mem_range.mp hk
  match k, hk with
  | 0, _ => exact wd_1_216
  | 1, _ => exact wd_1_218
  | 2, _ => exact wd_1_220
  | 3, _ => exact wd_1_222
  | 4, _ => exact wd_1_224
  | 5, _ => exact wd_1_226
  | 6, _ => exact wd_1_228
  | 7, _ => exact wd_1_230
  | k + 8, h => omega
theorem fw_9 : ∀ w ∈ u_ws RX9 TX9 4, w ∈ pd_B := by
  intro w hw
  obtain ⟨k, hk, rfl⟩ := List.mem_map.mp hw
  have hk := List.mem_range.mp hk
  match k, hk with
  | 0, _ => exact wd_1_125
  | 1, _ => exact wd_1_127
  | 2, _ => exact wd_1_129
  | 3, _ => exact wd_1_131
  | k + 4, h => omega
theorem fw_10 : ∀ w ∈ u_ws RX10 TX10 3, w ∈ pd_B := by
  intro w hw
  obtain ⟨k, hk, rfl⟩ := List.mem_map.mp hw
  have hk := List.mem_range.mp hk
  match k, hk with
  | 0, _ => exact wd_1_138
  | 1, _ => exact wd_1_140
  | 2, _ => exact wd_1_142
  | k + 3, h => omega
theorem fw_11 : ∀ w ∈ u_ws RX11 TX11 14, w ∈ pd_B := by
  intro w hw
  obtain ⟨k, hk, rfl⟩ := List.mem_map.mp hw
  have hk := List.mem_range.mp hk
  match k, hk with
  | 0, _ => exact wd_2_46
  | 1, _ => exact wd_2_48
  | 2, _ => exact wd_2_50
  | 3, _ => exact wd_2_52
  | 4, _ => exact wd_2_54
  | 5, _ => exact wd_2_56
  | 6, _ => exact wd_2_58
  | 7, _ => exact wd_2_60
  | 8, _ => exact wd_2_62
  | 9, _ => exact wd_2_64
  | 10, _ => exact wd_2_66
  | 11, _ => exact wd_2_68
  | 12, _ => exact wd_2_70
  | 13, _ => exact wd_2_72
  | k + 14, h => omega
theorem fw_12 : ∀ w ∈ u_ws RX12 TX12 44, w ∈ pd_B := by
  intro w hw
  obtain ⟨k, hk, rfl⟩ := List.mem_map.mp hw
  have hk := List.mem_range.mp hk
  match k, hk with
  | 0, _ => exact wd_5_169
  | 1, _ => exact wd_5_171
  | 2, _ => exact wd_5_173
  | 3, _ => exact wd_5_175
  | 4, _ => exact wd_5_177
  | 5, _ => exact wd_5_179
  | 6, _ => exact wd_5_181
  | 7, _ => exact wd_5_183
  | 8, _ => exact wd_5_185
  | 9, _ => exact wd_5_187
  | 10, _ => exact wd_5_189
  | 11, _ => exact wd_5_191
  | 12, _ => exact wd_5_193
  | 13, _ => exact wd_5_195
  | 14, _ => exact wd_5_197
  | 15, _ => exact wd_5_199
  | 16, _ => exact wd_5_201
  | 17, _ => exact wd_5_203
  | 18, _ => exact wd_5_205
  | 19, _ => exact wd_5_207
  | 20, _ => exact wd_5_209
  | 21, _ => exact wd_5_211
  | 22, _ => exact wd_5_213
  | 23, _ => exact wd_5_215
  | 24, _ => exact wd_5_217
  | 25, _ => exact wd_5_219
  | 26, _ => exact wd_5_221
  | 27, _ => exact wd_5_223
  | 28, _ => exact wd_5_225
  | 29, _ => exact wd_5_227
  | 30, _ => exact wd_5_229
  | 31, _ => exact wd_5_231
  | 32, _ => exact wd_5_233
  | 33, _ => exact wd_5_235
  | 34, _ => exact wd_5_237
  | 35, _ => exact wd_5_239
  | 36, _ => exact wd_6_1
  | 37, _ => exact wd_6_3
  | 38, _ => exact wd_6_5
  | 39, _ => exact wd_6_7
  | 40, _ => exact wd_6_9
  | 41, _ => exact wd_6_11
  | 42, _ => exact wd_6_13
  | 43, _ => exact wd_6_15
  | k + 44, h => omega
