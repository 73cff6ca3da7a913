def mm_lay : List (Nat × Nat × Nat) := [(0, 12, 12), (0, 10, 6), (1, 0, 2000), (1, 0, 401), (1, 0, 401), (1, 3, 401), (1, 3, 20), (0, 5, 10), (0, 7, 6), (1, 5, 4), (1, 0, 20), (1, 0, 20), (0, 6, 4), (1, 4, 16), (0, 6, 4), (1, 4, 16), (0, 6, 4), (1, 4, 16), (0, 6, 4), (1, 4, 16), (0, 11, 6), (1, 8, 8), (1, 0, 6), (1, 0, 6), (1, 0, 6), (1, 0, 6), (1, 0, 6), (1, 0, 6), (1, 0, 6), (1, 0, 6), (1, 0, 8), (1, 7, 8), (1, 2, 8), (0, 0, 4), (1, 0, 8), (0, 0, 4), (1, 0, 8), (0, 0, 4), (1, 0, 8), (0, 0, 4), (1, 0, 8), (0, 0, 4), (1, 0, 8), (0, 0, 4), (1, 0, 8), (0, 0, 4), (1, 0, 8), (0, 0, 4), (1, 0, 8), (1, 0, 16), (0, 7, 6), (1, 5, 4), (1, 0, 20), (1, 0, 20), (0, 6, 4), (1, 4, 16), (0, 6, 4), (1, 4, 16), (0, 6, 4), (1, 4, 16), (0, 6, 4), (1, 4, 16), (0, 11, 6), (1, 8, 8), (1, 0, 6), (1, 0, 6), (1, 0, 6), (1, 0, 6), (1, 0, 6), (1, 0, 6), (1, 0, 6), (1, 0, 6), (1, 0, 8), (1, 7, 8), (1, 2, 8), (0, 0, 4), (1, 0, 8), (0, 0, 4), (1, 0, 8), (0, 0, 4), (1, 0, 8), (0, 0, 4), (1, 0, 8), (0, 0, 4), (1, 0, 8), (0, 0, 4), (1, 0, 8), (0, 0, 4), (1, 0, 8), (0, 0, 4), (1, 0, 8), (0, 3, 15), (0, 0, 4), (1, 0, 8), (1, 0, 4), (1, 0, 300), (1, 5, 4), (1, 0, 4), (0, 2, 7), (1, 7, 32), (1, 0, 4), (1, 2, 4), (0, 6, 4), (1, 4, 16), (0, 0, 4), (1, 0, 8), (0, 0, 4), (1, 0, 8), (0, 0, 4), (1, 0, 8), (0, 0, 4), (1, 0, 8), (0, 0, 4), (1, 0, 8), (0, 0, 4), (1, 0, 8), (0, 0, 4), (1, 0, 8), (0, 0, 4), (1, 0, 8), (0, 0, 4), (1, 0, 8), (0, 0, 4), (1, 0, 8), (0, 0, 4), (1, 0, 8), (0, 0, 4), (1, 0, 8), (0, 0, 4), (1, 0, 8), (0, 0, 4), (1, 0, 8), (0, 0, 4), (1, 0, 8), (0, 0, 4), (1, 0, 8), (0, 0, 4), (1, 0, 8), (0, 0, 4), (1, 0, 8), (0, 0, 4), (1, 0, 8), (0, 0, 4), (1, 0, 8), (0, 0, 4), (1, 0, 8), (0, 0, 4), (1, 0, 8), (0, 0, 4), (1, 0, 8), (0, 0, 4), (1, 0, 8), (0, 0, 4), (1, 0, 8), (0, 0, 4), (1, 0, 8), (0, 0, 4), (1, 0, 8), (0, 0, 4), (1, 0, 8), (0, 0, 4), (1, 0, 8), (0, 0, 4), (1, 0, 8), (0, 0, 4), (1, 0, 8), (0, 0, 4), (1, 0, 8), (0, 4, 7), (1, 0, 4096), (1, 3, 13), (0, 8, 9), (1, 0, 5), (0, 6, 4), (1, 4, 16), (0, 9, 14), (1, 0, 120), (1, 0, 120), (1, 0, 960), (1, 0, 9600), (1, 2, 8), (1, 0, 120), (1, 8, 5), (1, 0, 120), (1, 0, 120), (1, 0, 120), (1, 0, 120), (1, 0, 120), (1, 6, 3), (0, 7, 6), (1, 5, 4), (1, 0, 20), (1, 0, 20), (0, 6, 4), (1, 4, 16), (0, 6, 4), (1, 4, 16), (0, 6, 4), (1, 4, 16), (0, 6, 4), (1, 4, 16), (0, 7, 6), (1, 5, 4), (1, 0, 20), (1, 0, 20), (0, 6, 4), (1, 4, 16), (0, 6, 4), (1, 4, 16), (0, 6, 4), (1, 4, 16), (0, 6, 4), (1, 4, 16), (0, 7, 6), (1, 5, 4), (1, 0, 20), (1, 0, 20), (0, 6, 4), (1, 4, 16), (0, 6, 4), (1, 4, 16), (0, 6, 4), (1, 4, 16), (0, 6, 4), (1, 4, 16), (1, 2, 3), (0, 13, 85), (1, 1, 2000), (1, 1, 2000), (1, 0, 403), (1, 0, 403), (1, 0, 403), (1, 3, 403), (1, 3, 20), (1, 0, 5), (1, 3, 20), (1, 0, 20), (1, 0, 320), (1, 0, 320), (1, 0, 320), (1, 0, 320), (1, 0, 320), (1, 0, 320), (1, 0, 320), (1, 0, 320), (1, 0, 320), (1, 3, 320), (1, 3, 320), (1, 0, 16), (1, 0, 2), (1, 0, 16), (1, 0, 96), (1, 0, 16), (1, 0, 128), (1, 0, 2), (1, 0, 20), (1, 0, 20), (1, 0, 4), (1, 0, 8), (1, 0, 301), (1, 0, 8), (1, 0, 8), (1, 0, 8), (1, 0, 8), (1, 0, 64), (1, 2, 4096), (1, 3, 4096), (1, 0, 8), (1, 0, 20), (1, 0, 20), (1, 0, 20), (1, 0, 160), (1, 0, 140), (1, 0, 1120), (1, 0, 140), (1, 0, 140), (1, 0, 1120), (1, 2, 700), (1, 2, 3), (1, 0, 3), (1, 0, 3), (1, 0, 60), (1, 0, 60), (1, 0, 60), (1, 0, 480)]
def mm_stT : List (List (Option Nat)) := [[some 1, some 7, some 50, some 62, some 91, some 98, some 168, some 171, some 175, some 188, some 225], [some 2, some 3, some 4, some 5, none, some 6], [], [], [], [], [], [some 8, some 20, none, none, some 1, some 49], [some 9, none, some 10, some 11], [some 12, some 14, some 16, some 18], [], [], [some 13], [], [some 15], [], [some 17], [], [some 19], [], [some 21, some 30, some 31, some 32], [some 22, some 23, some 24, some 25, some 26, some 27, some 28, some 29], [], [], [], [], [], [], [], [], [], [some 33, some 35, some 37, some 39, some 41, some 43, some 45, some 47], [], [some 34], [], [some 36], [], [some 38], [], [some 40], [], [some 42], [], [some 44], [], [some 46], [], [some 48], [], [], [some 51, none, some 52, some 53], [some 54, some 56, some 58, some 60], [], [], [some 55], [], [some 57], [], [some 59], [], [some 61], [], [some 63, some 72, some 73, some 74], [some 64, some 65, some 66, some 67, some 68, some 69, some 70, some 71], [], [], [], [], [], [], [], [], [], [some 75, some 77, some 79, some 81, some 83, some 85, some 87, some 89], [], [some 76], [], [some 78], [], [some 80], [], [some 82], [], [some 84], [], [some 86], [], [some 88], [], [some 90], [], [some 92, some 94, some 95, none, none, none, some 50, some 62, some 96, some 97], [some 93], [], [], [], [], [], [some 50, some 62, some 91, some 99, some 100, some 101, some 102], [some 104, some 106, some 108, some 110, some 112, some 114, some 116, some 118, some 120, some 122, some 124, some 126, some 128, some 130, some 132, some 134, some 136, some 138, some 140, some 142, some 144, some 146, some 148, some 150, some 152, some 154, some 156, some 158, some 160, some 162, some 164, some 166], [], [], [some 103], [], [some 105], [], [some 107], [], [some 109], [], [some 111], [], [some 113], [], [some 115], [], [some 117], [], [some 119], [], [some 121], [], [some 123], [], [some 125], [], [some 127], [], [some 129], [], [some 131], [], [some 133], [], [some 135], [], [some 137], [], [some 139], [], [some 141], [], [some 143], [], [some 145], [], [some 147], [], [some 149], [], [some 151], [], [some 153], [], [some 155], [], [some 157], [], [some 159], [], [some 161], [], [some 163], [], [some 165], [], [some 167], [], [some 50, some 98, some 169, some 170], [], [], [some 172, some 50, some 62, some 91, some 173], [], [some 174], [], [some 176, some 177, some 50, some 62, some 91, some 178, some 179, some 180, some 181, some 182], [], [], [], [], [], [], [some 183, some 184, some 185, some 186, some 187], [], [], [], [], [], [some 189, some 201, some 213], [some 190, none, some 191, some 192], [some 193, some 195, some 197, some 199], [], [], [some 194], [], [some 196], [], [some 198], [], [some 200], [], [some 202, none, some 203, some 204], [some 205, some 207, some 209, some 211], [], [], [some 206], [], [some 208], [], [some 210], [], [some 212], [], [some 214, none, some 215, some 216], [some 217, some 219, some 221, some 223], [], [], [some 218], [], [some 220], [], [some 222], [], [some 224], [], [], [none, some 227, none, some 228, none, some 229, some 230, some 231, some 232, some 233, none, none, none, none, none, none, none, none, none, none, some 234, some 235, some 236, some 237, some 238, some 239, some 240, some 241, some 242, some 243, some 244, some 245, some 246, some 247, some 248, some 249, some 250, some 251, some 252, some 253, some 254, none, none, some 255, some 256, none, none, none, some 257, none, none, none, some 258, none, some 259, none, some 260, some 261, none, some 262, some 263, some 264, some 265, some 266, some 267, none, none, some 268, some 269, some 270, some 271, some 272, none, some 273, some 274, some 275, some 276, some 277, some 278, some 279, some 280, some 281, some 282, some 283, some 284], [], [], [], [], [], [], [], [], [], [], [], [], [], [], [], [], [], [], [], [], [], [], [], [], [], [], [], [], [], [], [], [], [], [], [], [], [], [], [], [], [], [], [], [], [], [], [], [], [], [], [], [], [], [], [], [], [], []]
def mm_sh (o : Nat) : Nat × Nat × Nat := mm_lay.getD o (0, 1, 11)
def mm_st (ph : Bool) (o k : Nat) : Option Nat := if ph = true then (mm_stT.getD o []).getD k none else none
theorem sh_0 : mm_sh 0 = (0, 12, 12) := by decide +kernel
theorem sh_1 : mm_sh 1 = (0, 10, 6) := by decide +kernel
theorem sh_2 : mm_sh 2 = (1, 0, 2000) := by decide +kernel
theorem sh_3 : mm_sh 3 = (1, 0, 401) := by decide +kernel
theorem sh_4 : mm_sh 4 = (1, 0, 401) := by decide +kernel
theorem sh_5 : mm_sh 5 = (1, 3, 401) := by decide +kernel
theorem sh_6 : mm_sh 6 = (1, 3, 20) := by decide +kernel
theorem sh_7 : mm_sh 7 = (0, 5, 10) := by decide +kernel
theorem sh_8 : mm_sh 8 = (0, 7, 6) := by decide +kernel
theorem sh_9 : mm_sh 9 = (1, 5, 4) := by decide +kernel
theorem sh_10 : mm_sh 10 = (1, 0, 20) := by decide +kernel
theorem sh_11 : mm_sh 11 = (1, 0, 20) := by decide +kernel
theorem sh_12 : mm_sh 12 = (0, 6, 4) := by decide +kernel
theorem sh_13 : mm_sh 13 = (1, 4, 16) := by decide +kernel
theorem sh_14 : mm_sh 14 = (0, 6, 4) := by decide +kernel
theorem sh_15 : mm_sh 15 = (1, 4, 16) := by decide +kernel
theorem sh_16 : mm_sh 16 = (0, 6, 4) := by decide +kernel
theorem sh_17 : mm_sh 17 = (1, 4, 16) := by decide +kernel
theorem sh_18 : mm_sh 18 = (0, 6, 4) := by decide +kernel
theorem sh_19 : mm_sh 19 = (1, 4, 16) := by decide +kernel
theorem sh_20 : mm_sh 20 = (0, 11, 6) := by decide +kernel
theorem sh_21 : mm_sh 21 = (1, 8, 8) := by decide +kernel
theorem sh_22 : mm_sh 22 = (1, 0, 6) := by decide +kernel
theorem sh_23 : mm_sh 23 = (1, 0, 6) := by decide +kernel
theorem sh_24 : mm_sh 24 = (1, 0, 6) := by decide +kernel
theorem sh_25 : mm_sh 25 = (1, 0, 6) := by decide +kernel
theorem sh_26 : mm_sh 26 = (1, 0, 6) := by decide +kernel
theorem sh_27 : mm_sh 27 = (1, 0, 6) := by decide +kernel
theorem sh_28 : mm_sh 28 = (1, 0, 6) := by decide +kernel
theorem sh_29 : mm_sh 29 = (1, 0, 6) := by decide +kernel
theorem sh_30 : mm_sh 30 = (1, 0, 8) := by decide +kernel
theorem sh_31 : mm_sh 31 = (1, 7, 8) := by decide +kernel
theorem sh_32 : mm_sh 32 = (1, 2, 8) := by decide +kernel
theorem sh_33 : mm_sh 33 = (0, 0, 4) := by decide +kernel
theorem sh_34 : mm_sh 34 = (1, 0, 8) := by decide +kernel
theorem sh_35 : mm_sh 35 = (0, 0, 4) := by decide +kernel
theorem sh_36 : mm_sh 36 = (1, 0, 8) := by decide +kernel
theorem sh_37 : mm_sh 37 = (0, 0, 4) := by decide +kernel
theorem sh_38 : mm_sh 38 = (1, 0, 8) := by decide +kernel
theorem sh_39 : mm_sh 39 = (0, 0, 4) := by decide +kernel
theorem sh_40 : mm_sh 40 = (1, 0, 8) := by decide +kernel
theorem sh_41 : mm_sh 41 = (0, 0, 4) := by decide +kernel
theorem sh_42 : mm_sh 42 = (1, 0, 8) := by decide +kernel
theorem sh_43 : mm_sh 43 = (0, 0, 4) := by decide +kernel
theorem sh_44 : mm_sh 44 = (1, 0, 8) := by decide +kernel
theorem sh_45 : mm_sh 45 = (0, 0, 4) := by decide +kernel
theorem sh_46 : mm_sh 46 = (1, 0, 8) := by decide +kernel
theorem sh_47 : mm_sh 47 = (0, 0, 4) := by decide +kernel
theorem sh_48 : mm_sh 48 = (1, 0, 8) := by decide +kernel
theorem sh_49 : mm_sh 49 = (1, 0, 16) := by decide +kernel
theorem sh_50 : mm_sh 50 = (0, 7, 6) := by decide +kernel
theorem sh_51 : mm_sh 51 = (1, 5, 4) := by decide +kernel
theorem sh_52 : mm_sh 52 = (1, 0, 20) := by decide +kernel
theorem sh_53 : mm_sh 53 = (1, 0, 20) := by decide +kernel
theorem sh_54 : mm_sh 54 = (0, 6, 4) := by decide +kernel
theorem sh_55 : mm_sh 55 = (1, 4, 16) := by decide +kernel
theorem sh_56 : mm_sh 56 = (0, 6, 4) := by decide +kernel
theorem sh_57 : mm_sh 57 = (1, 4, 16) := by decide +kernel
theorem sh_58 : mm_sh 58 = (0, 6, 4) := by decide +kernel
theorem sh_59 : mm_sh 59 = (1, 4, 16) := by decide +kernel
theorem sh_60 : mm_sh 60 = (0, 6, 4) := by decide +kernel
theorem sh_61 : mm_sh 61 = (1, 4, 16) := by decide +kernel
theorem sh_62 : mm_sh 62 = (0, 11, 6) := by decide +kernel
theorem sh_63 : mm_sh 63 = (1, 8, 8) := by decide +kernel
theorem sh_64 : mm_sh 64 = (1, 0, 6) := by decide +kernel
theorem sh_65 : mm_sh 65 = (1, 0, 6) := by decide +kernel
theorem sh_66 : mm_sh 66 = (1, 0, 6) := by decide +kernel
theorem sh_67 : mm_sh 67 = (1, 0, 6) := by decide +kernel
theorem sh_68 : mm_sh 68 = (1, 0, 6) := by decide +kernel
theorem sh_69 : mm_sh 69 = (1, 0, 6) := by decide +kernel
theorem sh_70 : mm_sh 70 = (1, 0, 6) := by decide +kernel
theorem sh_71 : mm_sh 71 = (1, 0, 6) := by decide +kernel
theorem sh_72 : mm_sh 72 = (1, 0, 8) := by decide +kernel
theorem sh_73 : mm_sh 73 = (1, 7, 8) := by decide +kernel
theorem sh_74 : mm_sh 74 = (1, 2, 8) := by decide +kernel
theorem sh_75 : mm_sh 75 = (0, 0, 4) := by decide +kernel
theorem sh_76 : mm_sh 76 = (1, 0, 8) := by decide +kernel
theorem sh_77 : mm_sh 77 = (0, 0, 4) := by decide +kernel
theorem sh_78 : mm_sh 78 = (1, 0, 8) := by decide +kernel
theorem sh_79 : mm_sh 79 = (0, 0, 4) := by decide +kernel
theorem sh_80 : mm_sh 80 = (1, 0, 8) := by decide +kernel
theorem sh_81 : mm_sh 81 = (0, 0, 4) := by decide +kernel
theorem sh_82 : mm_sh 82 = (1, 0, 8) := by decide +kernel
theorem sh_83 : mm_sh 83 = (0, 0, 4) := by decide +kernel
theorem sh_84 : mm_sh 84 = (1, 0, 8) := by decide +kernel
theorem sh_85 : mm_sh 85 = (0, 0, 4) := by decide +kernel
theorem sh_86 : mm_sh 86 = (1, 0, 8) := by decide +kernel
theorem sh_87 : mm_sh 87 = (0, 0, 4) := by decide +kernel
theorem sh_88 : mm_sh 88 = (1, 0, 8) := by decide +kernel
theorem sh_89 : mm_sh 89 = (0, 0, 4) := by decide +kernel
theorem sh_90 : mm_sh 90 = (1, 0, 8) := by decide +kernel
theorem sh_91 : mm_sh 91 = (0, 3, 15) := by decide +kernel
theorem sh_92 : mm_sh 92 = (0, 0, 4) := by decide +kernel
theorem sh_93 : mm_sh 93 = (1, 0, 8) := by decide +kernel
theorem sh_94 : mm_sh 94 = (1, 0, 4) := by decide +kernel
theorem sh_95 : mm_sh 95 = (1, 0, 300) := by decide +kernel
theorem sh_96 : mm_sh 96 = (1, 5, 4) := by decide +kernel
theorem sh_97 : mm_sh 97 = (1, 0, 4) := by decide +kernel
theorem sh_98 : mm_sh 98 = (0, 2, 7) := by decide +kernel
theorem sh_99 : mm_sh 99 = (1, 7, 32) := by decide +kernel
theorem sh_100 : mm_sh 100 = (1, 0, 4) := by decide +kernel
theorem sh_101 : mm_sh 101 = (1, 2, 4) := by decide +kernel
theorem sh_102 : mm_sh 102 = (0, 6, 4) := by decide +kernel
theorem sh_103 : mm_sh 103 = (1, 4, 16) := by decide +kernel
theorem sh_104 : mm_sh 104 = (0, 0, 4) := by decide +kernel
theorem sh_105 : mm_sh 105 = (1, 0, 8) := by decide +kernel
theorem sh_106 : mm_sh 106 = (0, 0, 4) := by decide +kernel
theorem sh_107 : mm_sh 107 = (1, 0, 8) := by decide +kernel
theorem sh_108 : mm_sh 108 = (0, 0, 4) := by decide +kernel
theorem sh_109 : mm_sh 109 = (1, 0, 8) := by decide +kernel
theorem sh_110 : mm_sh 110 = (0, 0, 4) := by decide +kernel
theorem sh_111 : mm_sh 111 = (1, 0, 8) := by decide +kernel
theorem sh_112 : mm_sh 112 = (0, 0, 4) := by decide +kernel
theorem sh_113 : mm_sh 113 = (1, 0, 8) := by decide +kernel
theorem sh_114 : mm_sh 114 = (0, 0, 4) := by decide +kernel
theorem sh_115 : mm_sh 115 = (1, 0, 8) := by decide +kernel
theorem sh_116 : mm_sh 116 = (0, 0, 4) := by decide +kernel
theorem sh_117 : mm_sh 117 = (1, 0, 8) := by decide +kernel
theorem sh_118 : mm_sh 118 = (0, 0, 4) := by decide +kernel
theorem sh_119 : mm_sh 119 = (1, 0, 8) := by decide +kernel
theorem sh_120 : mm_sh 120 = (0, 0, 4) := by decide +kernel
theorem sh_121 : mm_sh 121 = (1, 0, 8) := by decide +kernel
theorem sh_122 : mm_sh 122 = (0, 0, 4) := by decide +kernel
theorem sh_123 : mm_sh 123 = (1, 0, 8) := by decide +kernel
theorem sh_124 : mm_sh 124 = (0, 0, 4) := by decide +kernel
theorem sh_125 : mm_sh 125 = (1, 0, 8) := by decide +kernel
theorem sh_126 : mm_sh 126 = (0, 0, 4) := by decide +kernel
theorem sh_127 : mm_sh 127 = (1, 0, 8) := by decide +kernel
theorem sh_128 : mm_sh 128 = (0, 0, 4) := by decide +kernel
theorem sh_129 : mm_sh 129 = (1, 0, 8) := by decide +kernel
theorem sh_130 : mm_sh 130 = (0, 0, 4) := by decide +kernel
theorem sh_131 : mm_sh 131 = (1, 0, 8) := by decide +kernel
theorem sh_132 : mm_sh 132 = (0, 0, 4) := by decide +kernel
theorem sh_133 : mm_sh 133 = (1, 0, 8) := by decide +kernel
theorem sh_134 : mm_sh 134 = (0, 0, 4) := by decide +kernel
theorem sh_135 : mm_sh 135 = (1, 0, 8) := by decide +kernel
theorem sh_136 : mm_sh 136 = (0, 0, 4) := by decide +kernel
theorem sh_137 : mm_sh 137 = (1, 0, 8) := by decide +kernel
theorem sh_138 : mm_sh 138 = (0, 0, 4) := by decide +kernel
theorem sh_139 : mm_sh 139 = (1, 0, 8) := by decide +kernel
theorem sh_140 : mm_sh 140 = (0, 0, 4) := by decide +kernel
theorem sh_141 : mm_sh 141 = (1, 0, 8) := by decide +kernel
theorem sh_142 : mm_sh 142 = (0, 0, 4) := by decide +kernel
theorem sh_143 : mm_sh 143 = (1, 0, 8) := by decide +kernel
theorem sh_144 : mm_sh 144 = (0, 0, 4) := by decide +kernel
theorem sh_145 : mm_sh 145 = (1, 0, 8) := by decide +kernel
theorem sh_146 : mm_sh 146 = (0, 0, 4) := by decide +kernel
theorem sh_147 : mm_sh 147 = (1, 0, 8) := by decide +kernel
theorem sh_148 : mm_sh 148 = (0, 0, 4) := by decide +kernel
theorem sh_149 : mm_sh 149 = (1, 0, 8) := by decide +kernel
theorem sh_150 : mm_sh 150 = (0, 0, 4) := by decide +kernel
theorem sh_151 : mm_sh 151 = (1, 0, 8) := by decide +kernel
theorem sh_152 : mm_sh 152 = (0, 0, 4) := by decide +kernel
theorem sh_153 : mm_sh 153 = (1, 0, 8) := by decide +kernel
theorem sh_154 : mm_sh 154 = (0, 0, 4) := by decide +kernel
theorem sh_155 : mm_sh 155 = (1, 0, 8) := by decide +kernel
theorem sh_156 : mm_sh 156 = (0, 0, 4) := by decide +kernel
theorem sh_157 : mm_sh 157 = (1, 0, 8) := by decide +kernel
theorem sh_158 : mm_sh 158 = (0, 0, 4) := by decide +kernel
theorem sh_159 : mm_sh 159 = (1, 0, 8) := by decide +kernel
theorem sh_160 : mm_sh 160 = (0, 0, 4) := by decide +kernel
theorem sh_161 : mm_sh 161 = (1, 0, 8) := by decide +kernel
theorem sh_162 : mm_sh 162 = (0, 0, 4) := by decide +kernel
theorem sh_163 : mm_sh 163 = (1, 0, 8) := by decide +kernel
theorem sh_164 : mm_sh 164 = (0, 0, 4) := by decide +kernel
theorem sh_165 : mm_sh 165 = (1, 0, 8) := by decide +kernel
theorem sh_166 : mm_sh 166 = (0, 0, 4) := by decide +kernel
theorem sh_167 : mm_sh 167 = (1, 0, 8) := by decide +kernel
theorem sh_168 : mm_sh 168 = (0, 4, 7) := by decide +kernel
theorem sh_169 : mm_sh 169 = (1, 0, 4096) := by decide +kernel
theorem sh_170 : mm_sh 170 = (1, 3, 13) := by decide +kernel
theorem sh_171 : mm_sh 171 = (0, 8, 9) := by decide +kernel
theorem sh_172 : mm_sh 172 = (1, 0, 5) := by decide +kernel
theorem sh_173 : mm_sh 173 = (0, 6, 4) := by decide +kernel
theorem sh_174 : mm_sh 174 = (1, 4, 16) := by decide +kernel
theorem sh_175 : mm_sh 175 = (0, 9, 14) := by decide +kernel
theorem sh_176 : mm_sh 176 = (1, 0, 120) := by decide +kernel
theorem sh_177 : mm_sh 177 = (1, 0, 120) := by decide +kernel
theorem sh_178 : mm_sh 178 = (1, 0, 960) := by decide +kernel
theorem sh_179 : mm_sh 179 = (1, 0, 9600) := by decide +kernel
theorem sh_180 : mm_sh 180 = (1, 2, 8) := by decide +kernel
theorem sh_181 : mm_sh 181 = (1, 0, 120) := by decide +kernel
theorem sh_182 : mm_sh 182 = (1, 8, 5) := by decide +kernel
theorem sh_183 : mm_sh 183 = (1, 0, 120) := by decide +kernel
theorem sh_184 : mm_sh 184 = (1, 0, 120) := by decide +kernel
theorem sh_185 : mm_sh 185 = (1, 0, 120) := by decide +kernel
theorem sh_186 : mm_sh 186 = (1, 0, 120) := by decide +kernel
theorem sh_187 : mm_sh 187 = (1, 0, 120) := by decide +kernel
theorem sh_188 : mm_sh 188 = (1, 6, 3) := by decide +kernel
theorem sh_189 : mm_sh 189 = (0, 7, 6) := by decide +kernel
theorem sh_190 : mm_sh 190 = (1, 5, 4) := by decide +kernel
theorem sh_191 : mm_sh 191 = (1, 0, 20) := by decide +kernel
theorem sh_192 : mm_sh 192 = (1, 0, 20) := by decide +kernel
theorem sh_193 : mm_sh 193 = (0, 6, 4) := by decide +kernel
theorem sh_194 : mm_sh 194 = (1, 4, 16) := by decide +kernel
theorem sh_195 : mm_sh 195 = (0, 6, 4) := by decide +kernel
theorem sh_196 : mm_sh 196 = (1, 4, 16) := by decide +kernel
theorem sh_197 : mm_sh 197 = (0, 6, 4) := by decide +kernel
theorem sh_198 : mm_sh 198 = (1, 4, 16) := by decide +kernel
theorem sh_199 : mm_sh 199 = (0, 6, 4) := by decide +kernel
theorem sh_200 : mm_sh 200 = (1, 4, 16) := by decide +kernel
theorem sh_201 : mm_sh 201 = (0, 7, 6) := by decide +kernel
theorem sh_202 : mm_sh 202 = (1, 5, 4) := by decide +kernel
theorem sh_203 : mm_sh 203 = (1, 0, 20) := by decide +kernel
theorem sh_204 : mm_sh 204 = (1, 0, 20) := by decide +kernel
theorem sh_205 : mm_sh 205 = (0, 6, 4) := by decide +kernel
theorem sh_206 : mm_sh 206 = (1, 4, 16) := by decide +kernel
theorem sh_207 : mm_sh 207 = (0, 6, 4) := by decide +kernel
theorem sh_208 : mm_sh 208 = (1, 4, 16) := by decide +kernel
theorem sh_209 : mm_sh 209 = (0, 6, 4) := by decide +kernel
theorem sh_210 : mm_sh 210 = (1, 4, 16) := by decide +kernel
theorem sh_211 : mm_sh 211 = (0, 6, 4) := by decide +kernel
theorem sh_212 : mm_sh 212 = (1, 4, 16) := by decide +kernel
theorem sh_213 : mm_sh 213 = (0, 7, 6) := by decide +kernel
theorem sh_214 : mm_sh 214 = (1, 5, 4) := by decide +kernel
theorem sh_215 : mm_sh 215 = (1, 0, 20) := by decide +kernel
theorem sh_216 : mm_sh 216 = (1, 0, 20) := by decide +kernel
theorem sh_217 : mm_sh 217 = (0, 6, 4) := by decide +kernel
theorem sh_218 : mm_sh 218 = (1, 4, 16) := by decide +kernel
theorem sh_219 : mm_sh 219 = (0, 6, 4) := by decide +kernel
theorem sh_220 : mm_sh 220 = (1, 4, 16) := by decide +kernel
theorem sh_221 : mm_sh 221 = (0, 6, 4) := by decide +kernel
theorem sh_222 : mm_sh 222 = (1, 4, 16) := by decide +kernel
theorem sh_223 : mm_sh 223 = (0, 6, 4) := by decide +kernel
theorem sh_224 : mm_sh 224 = (1, 4, 16) := by decide +kernel
theorem sh_225 : mm_sh 225 = (1, 2, 3) := by decide +kernel
theorem sh_226 : mm_sh 226 = (0, 13, 85) := by decide +kernel
theorem sh_227 : mm_sh 227 = (1, 1, 2000) := by decide +kernel
theorem sh_228 : mm_sh 228 = (1, 1, 2000) := by decide +kernel
theorem sh_229 : mm_sh 229 = (1, 0, 403) := by decide +kernel
theorem sh_230 : mm_sh 230 = (1, 0, 403) := by decide +kernel
theorem sh_231 : mm_sh 231 = (1, 0, 403) := by decide +kernel
theorem sh_232 : mm_sh 232 = (1, 3, 403) := by decide +kernel
theorem sh_233 : mm_sh 233 = (1, 3, 20) := by decide +kernel
theorem sh_234 : mm_sh 234 = (1, 0, 5) := by decide +kernel
theorem sh_235 : mm_sh 235 = (1, 3, 20) := by decide +kernel
theorem sh_236 : mm_sh 236 = (1, 0, 20) := by decide +kernel
theorem sh_237 : mm_sh 237 = (1, 0, 320) := by decide +kernel
theorem sh_238 : mm_sh 238 = (1, 0, 320) := by decide +kernel
theorem sh_239 : mm_sh 239 = (1, 0, 320) := by decide +kernel
theorem sh_240 : mm_sh 240 = (1, 0, 320) := by decide +kernel
theorem sh_241 : mm_sh 241 = (1, 0, 320) := by decide +kernel
theorem sh_242 : mm_sh 242 = (1, 0, 320) := by decide +kernel
theorem sh_243 : mm_sh 243 = (1, 0, 320) := by decide +kernel
theorem sh_244 : mm_sh 244 = (1, 0, 320) := by decide +kernel
theorem sh_245 : mm_sh 245 = (1, 0, 320) := by decide +kernel
theorem sh_246 : mm_sh 246 = (1, 3, 320) := by decide +kernel
theorem sh_247 : mm_sh 247 = (1, 3, 320) := by decide +kernel
theorem sh_248 : mm_sh 248 = (1, 0, 16) := by decide +kernel
theorem sh_249 : mm_sh 249 = (1, 0, 2) := by decide +kernel
theorem sh_250 : mm_sh 250 = (1, 0, 16) := by decide +kernel
theorem sh_251 : mm_sh 251 = (1, 0, 96) := by decide +kernel
theorem sh_252 : mm_sh 252 = (1, 0, 16) := by decide +kernel
theorem sh_253 : mm_sh 253 = (1, 0, 128) := by decide +kernel
theorem sh_254 : mm_sh 254 = (1, 0, 2) := by decide +kernel
theorem sh_255 : mm_sh 255 = (1, 0, 20) := by decide +kernel
theorem sh_256 : mm_sh 256 = (1, 0, 20) := by decide +kernel
theorem sh_257 : mm_sh 257 = (1, 0, 4) := by decide +kernel
theorem sh_258 : mm_sh 258 = (1, 0, 8) := by decide +kernel
theorem sh_259 : mm_sh 259 = (1, 0, 301) := by decide +kernel
theorem sh_260 : mm_sh 260 = (1, 0, 8) := by decide +kernel
theorem sh_261 : mm_sh 261 = (1, 0, 8) := by decide +kernel
theorem sh_262 : mm_sh 262 = (1, 0, 8) := by decide +kernel
theorem sh_263 : mm_sh 263 = (1, 0, 8) := by decide +kernel
theorem sh_264 : mm_sh 264 = (1, 0, 64) := by decide +kernel
theorem sh_265 : mm_sh 265 = (1, 2, 4096) := by decide +kernel
theorem sh_266 : mm_sh 266 = (1, 3, 4096) := by decide +kernel
theorem sh_267 : mm_sh 267 = (1, 0, 8) := by decide +kernel
theorem sh_268 : mm_sh 268 = (1, 0, 20) := by decide +kernel
theorem sh_269 : mm_sh 269 = (1, 0, 20) := by decide +kernel
theorem sh_270 : mm_sh 270 = (1, 0, 20) := by decide +kernel
theorem sh_271 : mm_sh 271 = (1, 0, 160) := by decide +kernel
theorem sh_272 : mm_sh 272 = (1, 0, 140) := by decide +kernel
theorem sh_273 : mm_sh 273 = (1, 0, 1120) := by decide +kernel
theorem sh_274 : mm_sh 274 = (1, 0, 140) := by decide +kernel
theorem sh_275 : mm_sh 275 = (1, 0, 140) := by decide +kernel
theorem sh_276 : mm_sh 276 = (1, 0, 1120) := by decide +kernel
theorem sh_277 : mm_sh 277 = (1, 2, 700) := by decide +kernel
theorem sh_278 : mm_sh 278 = (1, 2, 3) := by decide +kernel
theorem sh_279 : mm_sh 279 = (1, 0, 3) := by decide +kernel
theorem sh_280 : mm_sh 280 = (1, 0, 3) := by decide +kernel
theorem sh_281 : mm_sh 281 = (1, 0, 60) := by decide +kernel
theorem sh_282 : mm_sh 282 = (1, 0, 60) := by decide +kernel
theorem sh_283 : mm_sh 283 = (1, 0, 60) := by decide +kernel
theorem sh_284 : mm_sh 284 = (1, 0, 480) := by decide +kernel
theorem st_0_0 : mm_st true 0 0 = some 1 := by decide +kernel
theorem st_0_1 : mm_st true 0 1 = some 7 := by decide +kernel
theorem st_0_2 : mm_st true 0 2 = some 50 := by decide +kernel
theorem st_0_3 : mm_st true 0 3 = some 62 := by decide +kernel
theorem st_0_4 : mm_st true 0 4 = some 91 := by decide +kernel
theorem st_0_5 : mm_st true 0 5 = some 98 := by decide +kernel
theorem st_0_6 : mm_st true 0 6 = some 168 := by decide +kernel
theorem st_0_7 : mm_st true 0 7 = some 171 := by decide +kernel
theorem st_0_8 : mm_st true 0 8 = some 175 := by decide +kernel
theorem st_0_9 : mm_st true 0 9 = some 188 := by decide +kernel
theorem st_0_10 : mm_st true 0 10 = some 225 := by decide +kernel
theorem st_1_0 : mm_st true 1 0 = some 2 := by decide +kernel
theorem st_1_1 : mm_st true 1 1 = some 3 := by decide +kernel
theorem st_1_2 : mm_st true 1 2 = some 4 := by decide +kernel
theorem st_1_3 : mm_st true 1 3 = some 5 := by decide +kernel
theorem st_1_5 : mm_st true 1 5 = some 6 := by decide +kernel
theorem st_7_0 : mm_st true 7 0 = some 8 := by decide +kernel
theorem st_7_1 : mm_st true 7 1 = some 20 := by decide +kernel
theorem st_7_4 : mm_st true 7 4 = some 1 := by decide +kernel
theorem st_7_5 : mm_st true 7 5 = some 49 := by decide +kernel
theorem st_8_0 : mm_st true 8 0 = some 9 := by decide +kernel
theorem st_8_2 : mm_st true 8 2 = some 10 := by decide +kernel
theorem st_8_3 : mm_st true 8 3 = some 11 := by decide +kernel
theorem st_9_0 : mm_st true 9 0 = some 12 := by decide +kernel
theorem st_9_1 : mm_st true 9 1 = some 14 := by decide +kernel
theorem st_9_2 : mm_st true 9 2 = some 16 := by decide +kernel
theorem st_9_3 : mm_st true 9 3 = some 18 := by decide +kernel
theorem st_12_0 : mm_st true 12 0 = some 13 := by decide +kernel
theorem st_14_0 : mm_st true 14 0 = some 15 := by decide +kernel
theorem st_16_0 : mm_st true 16 0 = some 17 := by decide +kernel
theorem st_18_0 : mm_st true 18 0 = some 19 := by decide +kernel
theorem st_20_0 : mm_st true 20 0 = some 21 := by decide +kernel
theorem st_20_1 : mm_st true 20 1 = some 30 := by decide +kernel
theorem st_20_2 : mm_st true 20 2 = some 31 := by decide +kernel
theorem st_20_3 : mm_st true 20 3 = some 32 := by decide +kernel
theorem st_21_0 : mm_st true 21 0 = some 22 := by decide +kernel
theorem st_21_1 : mm_st true 21 1 = some 23 := by decide +kernel
theorem st_21_2 : mm_st true 21 2 = some 24 := by decide +kernel
theorem st_21_3 : mm_st true 21 3 = some 25 := by decide +kernel
theorem st_21_4 : mm_st true 21 4 = some 26 := by decide +kernel
theorem st_21_5 : mm_st true 21 5 = some 27 := by decide +kernel
theorem st_21_6 : mm_st true 21 6 = some 28 := by decide +kernel
theorem st_21_7 : mm_st true 21 7 = some 29 := by decide +kernel
theorem st_31_0 : mm_st true 31 0 = some 33 := by decide +kernel
theorem st_31_1 : mm_st true 31 1 = some 35 := by decide +kernel
theorem st_31_2 : mm_st true 31 2 = some 37 := by decide +kernel
theorem st_31_3 : mm_st true 31 3 = some 39 := by decide +kernel
theorem st_31_4 : mm_st true 31 4 = some 41 := by decide +kernel
theorem st_31_5 : mm_st true 31 5 = some 43 := by decide +kernel
theorem st_31_6 : mm_st true 31 6 = some 45 := by decide +kernel
theorem st_31_7 : mm_st true 31 7 = some 47 := by decide +kernel
theorem st_33_0 : mm_st true 33 0 = some 34 := by decide +kernel
theorem st_35_0 : mm_st true 35 0 = some 36 := by decide +kernel
theorem st_37_0 : mm_st true 37 0 = some 38 := by decide +kernel
theorem st_39_0 : mm_st true 39 0 = some 40 := by decide +kernel
theorem st_41_0 : mm_st true 41 0 = some 42 := by decide +kernel
theorem st_43_0 : mm_st true 43 0 = some 44 := by decide +kernel
theorem st_45_0 : mm_st true 45 0 = some 46 := by decide +kernel
theorem st_47_0 : mm_st true 47 0 = some 48 := by decide +kernel
theorem st_50_0 : mm_st true 50 0 = some 51 := by decide +kernel
theorem st_50_2 : mm_st true 50 2 = some 52 := by decide +kernel
theorem st_50_3 : mm_st true 50 3 = some 53 := by decide +kernel
theorem st_51_0 : mm_st true 51 0 = some 54 := by decide +kernel
theorem st_51_1 : mm_st true 51 1 = some 56 := by decide +kernel
theorem st_51_2 : mm_st true 51 2 = some 58 := by decide +kernel
theorem st_51_3 : mm_st true 51 3 = some 60 := by decide +kernel
theorem st_54_0 : mm_st true 54 0 = some 55 := by decide +kernel
theorem st_56_0 : mm_st true 56 0 = some 57 := by decide +kernel
theorem st_58_0 : mm_st true 58 0 = some 59 := by decide +kernel
theorem st_60_0 : mm_st true 60 0 = some 61 := by decide +kernel
theorem st_62_0 : mm_st true 62 0 = some 63 := by decide +kernel
theorem st_62_1 : mm_st true 62 1 = some 72 := by decide +kernel
theorem st_62_2 : mm_st true 62 2 = some 73 := by decide +kernel
theorem st_62_3 : mm_st true 62 3 = some 74 := by decide +kernel
theorem st_63_0 : mm_st true 63 0 = some 64 := by decide +kernel
theorem st_63_1 : mm_st true 63 1 = some 65 := by decide +kernel
theorem st_63_2 : mm_st true 63 2 = some 66 := by decide +kernel
theorem st_63_3 : mm_st true 63 3 = some 67 := by decide +kernel
theorem st_63_4 : mm_st true 63 4 = some 68 := by decide +kernel
theorem st_63_5 : mm_st true 63 5 = some 69 := by decide +kernel
theorem st_63_6 : mm_st true 63 6 = some 70 := by decide +kernel
theorem st_63_7 : mm_st true 63 7 = some 71 := by decide +kernel
theorem st_73_0 : mm_st true 73 0 = some 75 := by decide +kernel
theorem st_73_1 : mm_st true 73 1 = some 77 := by decide +kernel
theorem st_73_2 : mm_st true 73 2 = some 79 := by decide +kernel
theorem st_73_3 : mm_st true 73 3 = some 81 := by decide +kernel
theorem st_73_4 : mm_st true 73 4 = some 83 := by decide +kernel
theorem st_73_5 : mm_st true 73 5 = some 85 := by decide +kernel
theorem st_73_6 : mm_st true 73 6 = some 87 := by decide +kernel
theorem st_73_7 : mm_st true 73 7 = some 89 := by decide +kernel
theorem st_75_0 : mm_st true 75 0 = some 76 := by decide +kernel
theorem st_77_0 : mm_st true 77 0 = some 78 := by decide +kernel
theorem st_79_0 : mm_st true 79 0 = some 80 := by decide +kernel
theorem st_81_0 : mm_st true 81 0 = some 82 := by decide +kernel
theorem st_83_0 : mm_st true 83 0 = some 84 := by decide +kernel
theorem st_85_0 : mm_st true 85 0 = some 86 := by decide +kernel
theorem st_87_0 : mm_st true 87 0 = some 88 := by decide +kernel
theorem st_89_0 : mm_st true 89 0 = some 90 := by decide +kernel
theorem st_91_0 : mm_st true 91 0 = some 92 := by decide +kernel
theorem st_91_1 : mm_st true 91 1 = some 94 := by decide +kernel
theorem st_91_2 : mm_st true 91 2 = some 95 := by decide +kernel
theorem st_91_6 : mm_st true 91 6 = some 50 := by decide +kernel
theorem st_91_7 : mm_st true 91 7 = some 62 := by decide +kernel
theorem st_91_8 : mm_st true 91 8 = some 96 := by decide +kernel
theorem st_91_9 : mm_st true 91 9 = some 97 := by decide +kernel
theorem st_92_0 : mm_st true 92 0 = some 93 := by decide +kernel
theorem st_98_0 : mm_st true 98 0 = some 50 := by decide +kernel
theorem st_98_1 : mm_st true 98 1 = some 62 := by decide +kernel
theorem st_98_2 : mm_st true 98 2 = some 91 := by decide +kernel
theorem st_98_3 : mm_st true 98 3 = some 99 := by decide +kernel
theorem st_98_4 : mm_st true 98 4 = some 100 := by decide +kernel
theorem st_98_5 : mm_st true 98 5 = some 101 := by decide +kernel
theorem st_98_6 : mm_st true 98 6 = some 102 := by decide +kernel
theorem st_99_0 : mm_st true 99 0 = some 104 := by decide +kernel
theorem st_99_1 : mm_st true 99 1 = some 106 := by decide +kernel
theorem st_99_2 : mm_st true 99 2 = some 108 := by decide +kernel
theorem st_99_3 : mm_st true 99 3 = some 110 := by decide +kernel
theorem st_99_4 : mm_st true 99 4 = some 112 := by decide +kernel
theorem st_99_5 : mm_st true 99 5 = some 114 := by decide +kernel
theorem st_99_6 : mm_st true 99 6 = some 116 := by decide +kernel
theorem st_99_7 : mm_st true 99 7 = some 118 := by decide +kernel
theorem st_99_8 : mm_st true 99 8 = some 120 := by decide +kernel
theorem st_99_9 : mm_st true 99 9 = some 122 := by decide +kernel
theorem st_99_10 : mm_st true 99 10 = some 124 := by decide +kernel
theorem st_99_11 : mm_st true 99 11 = some 126 := by decide +kernel
theorem st_99_12 : mm_st true 99 12 = some 128 := by decide +kernel
theorem st_99_13 : mm_st true 99 13 = some 130 := by decide +kernel
theorem st_99_14 : mm_st true 99 14 = some 132 := by decide +kernel
theorem st_99_15 : mm_st true 99 15 = some 134 := by decide +kernel
theorem st_99_16 : mm_st true 99 16 = some 136 := by decide +kernel
theorem st_99_17 : mm_st true 99 17 = some 138 := by decide +kernel
theorem st_99_18 : mm_st true 99 18 = some 140 := by decide +kernel
theorem st_99_19 : mm_st true 99 19 = some 142 := by decide +kernel
theorem st_99_20 : mm_st true 99 20 = some 144 := by decide +kernel
theorem st_99_21 : mm_st true 99 21 = some 146 := by decide +kernel
theorem st_99_22 : mm_st true 99 22 = some 148 := by decide +kernel
theorem st_99_23 : mm_st true 99 23 = some 150 := by decide +kernel
theorem st_99_24 : mm_st true 99 24 = some 152 := by decide +kernel
theorem st_99_25 : mm_st true 99 25 = some 154 := by decide +kernel
theorem st_99_26 : mm_st true 99 26 = some 156 := by decide +kernel
theorem st_99_27 : mm_st true 99 27 = some 158 := by decide +kernel
theorem st_99_28 : mm_st true 99 28 = some 160 := by decide +kernel
theorem st_99_29 : mm_st true 99 29 = some 162 := by decide +kernel
theorem st_99_30 : mm_st true 99 30 = some 164 := by decide +kernel
theorem st_99_31 : mm_st true 99 31 = some 166 := by decide +kernel
theorem st_102_0 : mm_st true 102 0 = some 103 := by decide +kernel
theorem st_104_0 : mm_st true 104 0 = some 105 := by decide +kernel
theorem st_106_0 : mm_st true 106 0 = some 107 := by decide +kernel
theorem st_108_0 : mm_st true 108 0 = some 109 := by decide +kernel
theorem st_110_0 : mm_st true 110 0 = some 111 := by decide +kernel
theorem st_112_0 : mm_st true 112 0 = some 113 := by decide +kernel
theorem st_114_0 : mm_st true 114 0 = some 115 := by decide +kernel
theorem st_116_0 : mm_st true 116 0 = some 117 := by decide +kernel
theorem st_118_0 : mm_st true 118 0 = some 119 := by decide +kernel
theorem st_120_0 : mm_st true 120 0 = some 121 := by decide +kernel
theorem st_122_0 : mm_st true 122 0 = some 123 := by decide +kernel
theorem st_124_0 : mm_st true 124 0 = some 125 := by decide +kernel
theorem st_126_0 : mm_st true 126 0 = some 127 := by decide +kernel
theorem st_128_0 : mm_st true 128 0 = some 129 := by decide +kernel
theorem st_130_0 : mm_st true 130 0 = some 131 := by decide +kernel
theorem st_132_0 : mm_st true 132 0 = some 133 := by decide +kernel
theorem st_134_0 : mm_st true 134 0 = some 135 := by decide +kernel
theorem st_136_0 : mm_st true 136 0 = some 137 := by decide +kernel
theorem st_138_0 : mm_st true 138 0 = some 139 := by decide +kernel
theorem st_140_0 : mm_st true 140 0 = some 141 := by decide +kernel
theorem st_142_0 : mm_st true 142 0 = some 143 := by decide +kernel
theorem st_144_0 : mm_st true 144 0 = some 145 := by decide +kernel
theorem st_146_0 : mm_st true 146 0 = some 147 := by decide +kernel
theorem st_148_0 : mm_st true 148 0 = some 149 := by decide +kernel
theorem st_150_0 : mm_st true 150 0 = some 151 := by decide +kernel
theorem st_152_0 : mm_st true 152 0 = some 153 := by decide +kernel
theorem st_154_0 : mm_st true 154 0 = some 155 := by decide +kernel
theorem st_156_0 : mm_st true 156 0 = some 157 := by decide +kernel
theorem st_158_0 : mm_st true 158 0 = some 159 := by decide +kernel
theorem st_160_0 : mm_st true 160 0 = some 161 := by decide +kernel
theorem st_162_0 : mm_st true 162 0 = some 163 := by decide +kernel
theorem st_164_0 : mm_st true 164 0 = some 165 := by decide +kernel
theorem st_166_0 : mm_st true 166 0 = some 167 := by decide +kernel
theorem st_168_0 : mm_st true 168 0 = some 50 := by decide +kernel
theorem st_168_1 : mm_st true 168 1 = some 98 := by decide +kernel
theorem st_168_2 : mm_st true 168 2 = some 169 := by decide +kernel
theorem st_168_3 : mm_st true 168 3 = some 170 := by decide +kernel
theorem st_171_0 : mm_st true 171 0 = some 172 := by decide +kernel
theorem st_171_1 : mm_st true 171 1 = some 50 := by decide +kernel
theorem st_171_2 : mm_st true 171 2 = some 62 := by decide +kernel
theorem st_171_3 : mm_st true 171 3 = some 91 := by decide +kernel
theorem st_171_4 : mm_st true 171 4 = some 173 := by decide +kernel
theorem st_173_0 : mm_st true 173 0 = some 174 := by decide +kernel
theorem st_175_0 : mm_st true 175 0 = some 176 := by decide +kernel
theorem st_175_1 : mm_st true 175 1 = some 177 := by decide +kernel
theorem st_175_2 : mm_st true 175 2 = some 50 := by decide +kernel
theorem st_175_3 : mm_st true 175 3 = some 62 := by decide +kernel
theorem st_175_4 : mm_st true 175 4 = some 91 := by decide +kernel
theorem st_175_5 : mm_st true 175 5 = some 178 := by decide +kernel
theorem st_175_6 : mm_st true 175 6 = some 179 := by decide +kernel
theorem st_175_7 : mm_st true 175 7 = some 180 := by decide +kernel
theorem st_175_8 : mm_st true 175 8 = some 181 := by decide +kernel
theorem st_175_9 : mm_st true 175 9 = some 182 := by decide +kernel
theorem st_182_0 : mm_st true 182 0 = some 183 := by decide +kernel
theorem st_182_1 : mm_st true 182 1 = some 184 := by decide +kernel
theorem st_182_2 : mm_st true 182 2 = some 185 := by decide +kernel
theorem st_182_3 : mm_st true 182 3 = some 186 := by decide +kernel
theorem st_182_4 : mm_st true 182 4 = some 187 := by decide +kernel
theorem st_188_0 : mm_st true 188 0 = some 189 := by decide +kernel
theorem st_188_1 : mm_st true 188 1 = some 201 := by decide +kernel
theorem st_188_2 : mm_st true 188 2 = some 213 := by decide +kernel
theorem st_189_0 : mm_st true 189 0 = some 190 := by decide +kernel
theorem st_189_2 : mm_st true 189 2 = some 191 := by decide +kernel
theorem st_189_3 : mm_st true 189 3 = some 192 := by decide +kernel
theorem st_190_0 : mm_st true 190 0 = some 193 := by decide +kernel
theorem st_190_1 : mm_st true 190 1 = some 195 := by decide +kernel
theorem st_190_2 : mm_st true 190 2 = some 197 := by decide +kernel
theorem st_190_3 : mm_st true 190 3 = some 199 := by decide +kernel
theorem st_193_0 : mm_st true 193 0 = some 194 := by decide +kernel
theorem st_195_0 : mm_st true 195 0 = some 196 := by decide +kernel
theorem st_197_0 : mm_st true 197 0 = some 198 := by decide +kernel
theorem st_199_0 : mm_st true 199 0 = some 200 := by decide +kernel
theorem st_201_0 : mm_st true 201 0 = some 202 := by decide +kernel
theorem st_201_2 : mm_st true 201 2 = some 203 := by decide +kernel
theorem st_201_3 : mm_st true 201 3 = some 204 := by decide +kernel
theorem st_202_0 : mm_st true 202 0 = some 205 := by decide +kernel
theorem st_202_1 : mm_st true 202 1 = some 207 := by decide +kernel
theorem st_202_2 : mm_st true 202 2 = some 209 := by decide +kernel
theorem st_202_3 : mm_st true 202 3 = some 211 := by decide +kernel
theorem st_205_0 : mm_st true 205 0 = some 206 := by decide +kernel
theorem st_207_0 : mm_st true 207 0 = some 208 := by decide +kernel
theorem st_209_0 : mm_st true 209 0 = some 210 := by decide +kernel
theorem st_211_0 : mm_st true 211 0 = some 212 := by decide +kernel
theorem st_213_0 : mm_st true 213 0 = some 214 := by decide +kernel
theorem st_213_2 : mm_st true 213 2 = some 215 := by decide +kernel
theorem st_213_3 : mm_st true 213 3 = some 216 := by decide +kernel
theorem st_214_0 : mm_st true 214 0 = some 217 := by decide +kernel
theorem st_214_1 : mm_st true 214 1 = some 219 := by decide +kernel
theorem st_214_2 : mm_st true 214 2 = some 221 := by decide +kernel
theorem st_214_3 : mm_st true 214 3 = some 223 := by decide +kernel
theorem st_217_0 : mm_st true 217 0 = some 218 := by decide +kernel
theorem st_219_0 : mm_st true 219 0 = some 220 := by decide +kernel
theorem st_221_0 : mm_st true 221 0 = some 222 := by decide +kernel
theorem st_223_0 : mm_st true 223 0 = some 224 := by decide +kernel
theorem st_226_1 : mm_st true 226 1 = some 227 := by decide +kernel
theorem st_226_3 : mm_st true 226 3 = some 228 := by decide +kernel
theorem st_226_5 : mm_st true 226 5 = some 229 := by decide +kernel
theorem st_226_6 : mm_st true 226 6 = some 230 := by decide +kernel
theorem st_226_7 : mm_st true 226 7 = some 231 := by decide +kernel
theorem st_226_8 : mm_st true 226 8 = some 232 := by decide +kernel
theorem st_226_9 : mm_st true 226 9 = some 233 := by decide +kernel
theorem st_226_20 : mm_st true 226 20 = some 234 := by decide +kernel
theorem st_226_21 : mm_st true 226 21 = some 235 := by decide +kernel
theorem st_226_22 : mm_st true 226 22 = some 236 := by decide +kernel
theorem st_226_23 : mm_st true 226 23 = some 237 := by decide +kernel
theorem st_226_24 : mm_st true 226 24 = some 238 := by decide +kernel
theorem st_226_25 : mm_st true 226 25 = some 239 := by decide +kernel
theorem st_226_26 : mm_st true 226 26 = some 240 := by decide +kernel
theorem st_226_27 : mm_st true 226 27 = some 241 := by decide +kernel
theorem st_226_28 : mm_st true 226 28 = some 242 := by decide +kernel
theorem st_226_29 : mm_st true 226 29 = some 243 := by decide +kernel
theorem st_226_30 : mm_st true 226 30 = some 244 := by decide +kernel
theorem st_226_31 : mm_st true 226 31 = some 245 := by decide +kernel
theorem st_226_32 : mm_st true 226 32 = some 246 := by decide +kernel
theorem st_226_33 : mm_st true 226 33 = some 247 := by decide +kernel
theorem st_226_34 : mm_st true 226 34 = some 248 := by decide +kernel
theorem st_226_35 : mm_st true 226 35 = some 249 := by decide +kernel
theorem st_226_36 : mm_st true 226 36 = some 250 := by decide +kernel
theorem st_226_37 : mm_st true 226 37 = some 251 := by decide +kernel
theorem st_226_38 : mm_st true 226 38 = some 252 := by decide +kernel
theorem st_226_39 : mm_st true 226 39 = some 253 := by decide +kernel
theorem st_226_40 : mm_st true 226 40 = some 254 := by decide +kernel
theorem st_226_43 : mm_st true 226 43 = some 255 := by decide +kernel
theorem st_226_44 : mm_st true 226 44 = some 256 := by decide +kernel
theorem st_226_48 : mm_st true 226 48 = some 257 := by decide +kernel
theorem st_226_52 : mm_st true 226 52 = some 258 := by decide +kernel
theorem st_226_54 : mm_st true 226 54 = some 259 := by decide +kernel
theorem st_226_56 : mm_st true 226 56 = some 260 := by decide +kernel
theorem st_226_57 : mm_st true 226 57 = some 261 := by decide +kernel
theorem st_226_59 : mm_st true 226 59 = some 262 := by decide +kernel
theorem st_226_60 : mm_st true 226 60 = some 263 := by decide +kernel
theorem st_226_61 : mm_st true 226 61 = some 264 := by decide +kernel
theorem st_226_62 : mm_st true 226 62 = some 265 := by decide +kernel
theorem st_226_63 : mm_st true 226 63 = some 266 := by decide +kernel
theorem st_226_64 : mm_st true 226 64 = some 267 := by decide +kernel
theorem st_226_67 : mm_st true 226 67 = some 268 := by decide +kernel
theorem st_226_68 : mm_st true 226 68 = some 269 := by decide +kernel
theorem st_226_69 : mm_st true 226 69 = some 270 := by decide +kernel
theorem st_226_70 : mm_st true 226 70 = some 271 := by decide +kernel
theorem st_226_71 : mm_st true 226 71 = some 272 := by decide +kernel
theorem st_226_73 : mm_st true 226 73 = some 273 := by decide +kernel
theorem st_226_74 : mm_st true 226 74 = some 274 := by decide +kernel
theorem st_226_75 : mm_st true 226 75 = some 275 := by decide +kernel
theorem st_226_76 : mm_st true 226 76 = some 276 := by decide +kernel
theorem st_226_77 : mm_st true 226 77 = some 277 := by decide +kernel
theorem st_226_78 : mm_st true 226 78 = some 278 := by decide +kernel
theorem st_226_79 : mm_st true 226 79 = some 279 := by decide +kernel
theorem st_226_80 : mm_st true 226 80 = some 280 := by decide +kernel
theorem st_226_81 : mm_st true 226 81 = some 281 := by decide +kernel
theorem st_226_82 : mm_st true 226 82 = some 282 := by decide +kernel
theorem st_226_83 : mm_st true 226 83 = some 283 := by decide +kernel
theorem st_226_84 : mm_st true 226 84 = some 284 := by decide +kernel
