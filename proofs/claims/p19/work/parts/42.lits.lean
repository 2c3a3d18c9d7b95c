theorem kl_1 {n : Nat} {M : Mem} (hI : I n M) : mK M 1 = (8, 0) := kB hI 0 (by decide) rfl
theorem kl_2 {n : Nat} {M : Mem} (hI : I n M) : mK M 2 = (4, 0) := kB hI 1 (by decide) rfl
theorem kl_3 {n : Nat} {M : Mem} (hI : I n M) : mK M 3 = (6, 0) := kB hI 2 (by decide) rfl
theorem kl_4 {n : Nat} {M : Mem} (hI : I n M) : mK M 4 = (3, 0) := kB hI 3 (by decide) rfl
theorem kl_5 {n : Nat} {M : Mem} (hI : I n M) : mK M 5 = (10, 3) := kB hI 4 (by decide) rfl
theorem kl_6 {n : Nat} {M : Mem} (hI : I n M) : mK M 6 = (10, 4) := kB hI 5 (by decide) rfl
theorem kl_7 {n : Nat} {M : Mem} (hI : I n M) : mK M 7 = (10, 4) := kB hI 6 (by decide) rfl
theorem kl_8 {n : Nat} {M : Mem} (hI : I n M) : mK M 8 = (10, 4) := kB hI 7 (by decide) rfl
theorem kl_9 {n : Nat} {M : Mem} (hI : I n M) : mK M 9 = (10, 4) := kB hI 8 (by decide) rfl
theorem kl_10 {n : Nat} {M : Mem} (hI : I n M) : mK M 10 = (10, 4) := kB hI 9 (by decide) rfl
theorem kl_11 {n : Nat} {M : Mem} (hI : I n M) : mK M 11 = (13, 4) := kB hI 10 (by decide) rfl
theorem kl_12 {n : Nat} {M : Mem} (hI : I n M) : mK M 12 = (11, 4) := kB hI 11 (by decide) rfl
theorem kl_13 {n : Nat} {M : Mem} (hI : I n M) : mK M 13 = (10, 400) := kB hI 12 (by decide) rfl
theorem kl_14 {n : Nat} {M : Mem} (hI : I n M) : mK M 14 = (14, 8) := kB hI 13 (by decide) rfl
theorem kl_15 {n : Nat} {M : Mem} (hI : I n M) : mK M 15 = (10, 8) := kB hI 14 (by decide) rfl
theorem kl_16 {n : Nat} {M : Mem} (hI : I n M) : mK M 16 = (10, 8) := kB hI 15 (by decide) rfl
theorem kl_17 {n : Nat} {M : Mem} (hI : I n M) : mK M 17 = (10, 40) := kB hI 16 (by decide) rfl
theorem kl_18 {n : Nat} {M : Mem} (hI : I n M) : mK M 18 = (11, 40) := kB hI 17 (by decide) rfl
theorem kl_19 {n : Nat} {M : Mem} (hI : I n M) : mK M 19 = (10, 40) := kB hI 18 (by decide) rfl
theorem kl_20 {n : Nat} {M : Mem} (hI : I n M) : mK M 20 = (0, 0) := kB hI 19 (by decide) rfl
theorem kl_21 {n : Nat} {M : Mem} (hI : I n M) : mK M 21 = (13, 36) := kB hI 20 (by decide) rfl
theorem kl_22 {n : Nat} {M : Mem} (hI : I n M) : mK M 22 = (10, 4) := kB hI 21 (by decide) rfl
theorem kl_23 {n : Nat} {M : Mem} (hI : I n M) : mK M 23 = (13, 36) := kB hI 22 (by decide) rfl
theorem kl_24 {n : Nat} {M : Mem} (hI : I n M) : mK M 24 = (1, 0) := kB hI 23 (by decide) rfl
theorem kl_25 {n : Nat} {M : Mem} (hI : I n M) : mK M 25 = (10, 3) := kB hI 24 (by decide) rfl
theorem kl_26 {n : Nat} {M : Mem} (hI : I n M) : mK M 26 = (10, 2592) := kB hI 25 (by decide) rfl
theorem kl_27 {n : Nat} {M : Mem} (hI : I n M) : mK M 27 = (7, 0) := kB hI 26 (by decide) rfl
theorem kl_28 {n : Nat} {M : Mem} (hI : I n M) : mK M 28 = (13, 64) := kB hI 27 (by decide) rfl
theorem kl_29 {n : Nat} {M : Mem} (hI : I n M) : mK M 29 = (7, 0) := kB hI 28 (by decide) rfl
theorem kl_30 {n : Nat} {M : Mem} (hI : I n M) : mK M 30 = (13, 64) := kB hI 29 (by decide) rfl
theorem kl_31 {n : Nat} {M : Mem} (hI : I n M) : mK M 31 = (16, 9) := kB hI 30 (by decide) rfl
theorem kl_32 {n : Nat} {M : Mem} (hI : I n M) : mK M 32 = (7, 0) := kB hI 31 (by decide) rfl
theorem kl_33 {n : Nat} {M : Mem} (hI : I n M) : mK M 33 = (13, 64) := kB hI 32 (by decide) rfl
theorem kl_34 {n : Nat} {M : Mem} (hI : I n M) : mK M 34 = (7, 0) := kB hI 33 (by decide) rfl
theorem kl_35 {n : Nat} {M : Mem} (hI : I n M) : mK M 35 = (13, 64) := kB hI 34 (by decide) rfl
theorem kl_36 {n : Nat} {M : Mem} (hI : I n M) : mK M 36 = (7, 0) := kB hI 35 (by decide) rfl
theorem kl_37 {n : Nat} {M : Mem} (hI : I n M) : mK M 37 = (13, 64) := kB hI 36 (by decide) rfl
theorem kl_38 {n : Nat} {M : Mem} (hI : I n M) : mK M 38 = (3, 0) := kB hI 37 (by decide) rfl
theorem kl_39 {n : Nat} {M : Mem} (hI : I n M) : mK M 39 = (10, 3) := kB hI 38 (by decide) rfl
theorem kl_40 {n : Nat} {M : Mem} (hI : I n M) : mK M 40 = (10, 4) := kB hI 39 (by decide) rfl
theorem kl_41 {n : Nat} {M : Mem} (hI : I n M) : mK M 41 = (10, 4) := kB hI 40 (by decide) rfl
theorem kl_42 {n : Nat} {M : Mem} (hI : I n M) : mK M 42 = (10, 4) := kB hI 41 (by decide) rfl
theorem kl_43 {n : Nat} {M : Mem} (hI : I n M) : mK M 43 = (10, 4) := kB hI 42 (by decide) rfl
theorem kl_44 {n : Nat} {M : Mem} (hI : I n M) : mK M 44 = (10, 4) := kB hI 43 (by decide) rfl
theorem kl_45 {n : Nat} {M : Mem} (hI : I n M) : mK M 45 = (10, 3) := kB hI 44 (by decide) rfl
theorem kl_46 {n : Nat} {M : Mem} (hI : I n M) : mK M 46 = (10, 12) := kB hI 45 (by decide) rfl
theorem kl_47 {n : Nat} {M : Mem} (hI : I n M) : mK M 47 = (7, 0) := kB hI 46 (by decide) rfl
theorem kl_48 {n : Nat} {M : Mem} (hI : I n M) : mK M 48 = (13, 64) := kB hI 47 (by decide) rfl
theorem kl_49 {n : Nat} {M : Mem} (hI : I n M) : mK M 49 = (7, 0) := kB hI 48 (by decide) rfl
theorem kl_50 {n : Nat} {M : Mem} (hI : I n M) : mK M 50 = (13, 64) := kB hI 49 (by decide) rfl
theorem kl_51 {n : Nat} {M : Mem} (hI : I n M) : mK M 51 = (7, 0) := kB hI 50 (by decide) rfl
theorem kl_52 {n : Nat} {M : Mem} (hI : I n M) : mK M 52 = (13, 64) := kB hI 51 (by decide) rfl
theorem kl_53 {n : Nat} {M : Mem} (hI : I n M) : mK M 53 = (7, 0) := kB hI 52 (by decide) rfl
theorem kl_54 {n : Nat} {M : Mem} (hI : I n M) : mK M 54 = (13, 64) := kB hI 53 (by decide) rfl
theorem kl_55 {n : Nat} {M : Mem} (hI : I n M) : mK M 55 = (7, 0) := kB hI 54 (by decide) rfl
theorem kl_56 {n : Nat} {M : Mem} (hI : I n M) : mK M 56 = (13, 64) := kB hI 55 (by decide) rfl
theorem kl_57 {n : Nat} {M : Mem} (hI : I n M) : mK M 57 = (7, 0) := kB hI 56 (by decide) rfl
theorem kl_58 {n : Nat} {M : Mem} (hI : I n M) : mK M 58 = (13, 64) := kB hI 57 (by decide) rfl
theorem kl_59 {n : Nat} {M : Mem} (hI : I n M) : mK M 59 = (7, 0) := kB hI 58 (by decide) rfl
theorem kl_60 {n : Nat} {M : Mem} (hI : I n M) : mK M 60 = (13, 64) := kB hI 59 (by decide) rfl
theorem kl_61 {n : Nat} {M : Mem} (hI : I n M) : mK M 61 = (7, 0) := kB hI 60 (by decide) rfl
theorem kl_62 {n : Nat} {M : Mem} (hI : I n M) : mK M 62 = (13, 64) := kB hI 61 (by decide) rfl
theorem kl_63 {n : Nat} {M : Mem} (hI : I n M) : mK M 63 = (7, 0) := kB hI 62 (by decide) rfl
theorem kl_64 {n : Nat} {M : Mem} (hI : I n M) : mK M 64 = (13, 64) := kB hI 63 (by decide) rfl
theorem kl_65 {n : Nat} {M : Mem} (hI : I n M) : mK M 65 = (2, 0) := kB hI 64 (by decide) rfl
theorem kl_66 {n : Nat} {M : Mem} (hI : I n M) : mK M 66 = (5, 0) := kB hI 65 (by decide) rfl
theorem kl_67 {n : Nat} {M : Mem} (hI : I n M) : mK M 67 = (10, 40) := kB hI 66 (by decide) rfl
theorem kl_68 {n : Nat} {M : Mem} (hI : I n M) : mK M 68 = (10, 40) := kB hI 67 (by decide) rfl
theorem kl_69 {n : Nat} {M : Mem} (hI : I n M) : mK M 69 = (10, 40) := kB hI 68 (by decide) rfl
theorem kl_70 {n : Nat} {M : Mem} (hI : I n M) : mK M 70 = (10, 40) := kB hI 69 (by decide) rfl
theorem kl_71 {n : Nat} {M : Mem} (hI : I n M) : mK M 71 = (10, 40) := kB hI 70 (by decide) rfl
theorem kl_72 {n : Nat} {M : Mem} (hI : I n M) : mK M 72 = (10, 402) := kB hI 71 (by decide) rfl
theorem kl_73 {n : Nat} {M : Mem} (hI : I n M) : mK M 73 = (15, 3) := kB hI 72 (by decide) rfl
theorem kl_74 {n : Nat} {M : Mem} (hI : I n M) : mK M 74 = (11, 3) := kB hI 73 (by decide) rfl
theorem kl_75 {n : Nat} {M : Mem} (hI : I n M) : mK M 75 = (6, 0) := kB hI 74 (by decide) rfl
theorem kl_76 {n : Nat} {M : Mem} (hI : I n M) : mK M 76 = (3, 0) := kB hI 75 (by decide) rfl
theorem kl_77 {n : Nat} {M : Mem} (hI : I n M) : mK M 77 = (10, 3) := kB hI 76 (by decide) rfl
theorem kl_78 {n : Nat} {M : Mem} (hI : I n M) : mK M 78 = (10, 4) := kB hI 77 (by decide) rfl
theorem kl_79 {n : Nat} {M : Mem} (hI : I n M) : mK M 79 = (10, 4) := kB hI 78 (by decide) rfl
theorem kl_80 {n : Nat} {M : Mem} (hI : I n M) : mK M 80 = (10, 4) := kB hI 79 (by decide) rfl
theorem kl_81 {n : Nat} {M : Mem} (hI : I n M) : mK M 81 = (10, 4) := kB hI 80 (by decide) rfl
theorem kl_82 {n : Nat} {M : Mem} (hI : I n M) : mK M 82 = (10, 4) := kB hI 81 (by decide) rfl
theorem kl_83 {n : Nat} {M : Mem} (hI : I n M) : mK M 83 = (13, 4) := kB hI 82 (by decide) rfl
theorem kl_84 {n : Nat} {M : Mem} (hI : I n M) : mK M 84 = (11, 4) := kB hI 83 (by decide) rfl
theorem kl_85 {n : Nat} {M : Mem} (hI : I n M) : mK M 85 = (10, 400) := kB hI 84 (by decide) rfl
theorem kl_86 {n : Nat} {M : Mem} (hI : I n M) : mK M 86 = (14, 8) := kB hI 85 (by decide) rfl
theorem kl_87 {n : Nat} {M : Mem} (hI : I n M) : mK M 87 = (10, 8) := kB hI 86 (by decide) rfl
theorem kl_88 {n : Nat} {M : Mem} (hI : I n M) : mK M 88 = (10, 8) := kB hI 87 (by decide) rfl
theorem kl_89 {n : Nat} {M : Mem} (hI : I n M) : mK M 89 = (10, 40) := kB hI 88 (by decide) rfl
theorem kl_90 {n : Nat} {M : Mem} (hI : I n M) : mK M 90 = (11, 40) := kB hI 89 (by decide) rfl
theorem kl_91 {n : Nat} {M : Mem} (hI : I n M) : mK M 91 = (10, 40) := kB hI 90 (by decide) rfl
theorem kl_92 {n : Nat} {M : Mem} (hI : I n M) : mK M 92 = (6, 0) := kB hI 91 (by decide) rfl
theorem kl_93 {n : Nat} {M : Mem} (hI : I n M) : mK M 93 = (3, 0) := kB hI 92 (by decide) rfl
theorem kl_94 {n : Nat} {M : Mem} (hI : I n M) : mK M 94 = (10, 3) := kB hI 93 (by decide) rfl
theorem kl_95 {n : Nat} {M : Mem} (hI : I n M) : mK M 95 = (10, 4) := kB hI 94 (by decide) rfl
theorem kl_96 {n : Nat} {M : Mem} (hI : I n M) : mK M 96 = (10, 4) := kB hI 95 (by decide) rfl
theorem kl_97 {n : Nat} {M : Mem} (hI : I n M) : mK M 97 = (10, 4) := kB hI 96 (by decide) rfl
theorem kl_98 {n : Nat} {M : Mem} (hI : I n M) : mK M 98 = (10, 4) := kB hI 97 (by decide) rfl
theorem kl_99 {n : Nat} {M : Mem} (hI : I n M) : mK M 99 = (10, 4) := kB hI 98 (by decide) rfl
theorem kl_100 {n : Nat} {M : Mem} (hI : I n M) : mK M 100 = (13, 4) := kB hI 99 (by decide) rfl
theorem kl_101 {n : Nat} {M : Mem} (hI : I n M) : mK M 101 = (11, 4) := kB hI 100 (by decide) rfl
theorem kl_102 {n : Nat} {M : Mem} (hI : I n M) : mK M 102 = (10, 400) := kB hI 101 (by decide) rfl
theorem kl_103 {n : Nat} {M : Mem} (hI : I n M) : mK M 103 = (14, 8) := kB hI 102 (by decide) rfl
theorem kl_104 {n : Nat} {M : Mem} (hI : I n M) : mK M 104 = (10, 8) := kB hI 103 (by decide) rfl
theorem kl_105 {n : Nat} {M : Mem} (hI : I n M) : mK M 105 = (10, 8) := kB hI 104 (by decide) rfl
theorem kl_106 {n : Nat} {M : Mem} (hI : I n M) : mK M 106 = (10, 40) := kB hI 105 (by decide) rfl
theorem kl_107 {n : Nat} {M : Mem} (hI : I n M) : mK M 107 = (11, 40) := kB hI 106 (by decide) rfl
theorem kl_108 {n : Nat} {M : Mem} (hI : I n M) : mK M 108 = (10, 40) := kB hI 107 (by decide) rfl
theorem kl_109 {n : Nat} {M : Mem} (hI : I n M) : mK M 109 = (6, 0) := kB hI 108 (by decide) rfl
theorem kl_110 {n : Nat} {M : Mem} (hI : I n M) : mK M 110 = (3, 0) := kB hI 109 (by decide) rfl
theorem kl_111 {n : Nat} {M : Mem} (hI : I n M) : mK M 111 = (10, 3) := kB hI 110 (by decide) rfl
theorem kl_112 {n : Nat} {M : Mem} (hI : I n M) : mK M 112 = (10, 4) := kB hI 111 (by decide) rfl
theorem kl_113 {n : Nat} {M : Mem} (hI : I n M) : mK M 113 = (10, 4) := kB hI 112 (by decide) rfl
theorem kl_114 {n : Nat} {M : Mem} (hI : I n M) : mK M 114 = (10, 4) := kB hI 113 (by decide) rfl
theorem kl_115 {n : Nat} {M : Mem} (hI : I n M) : mK M 115 = (10, 4) := kB hI 114 (by decide) rfl
theorem kl_116 {n : Nat} {M : Mem} (hI : I n M) : mK M 116 = (10, 4) := kB hI 115 (by decide) rfl
theorem kl_117 {n : Nat} {M : Mem} (hI : I n M) : mK M 117 = (13, 4) := kB hI 116 (by decide) rfl
theorem kl_118 {n : Nat} {M : Mem} (hI : I n M) : mK M 118 = (11, 4) := kB hI 117 (by decide) rfl
theorem kl_119 {n : Nat} {M : Mem} (hI : I n M) : mK M 119 = (10, 400) := kB hI 118 (by decide) rfl
theorem kl_120 {n : Nat} {M : Mem} (hI : I n M) : mK M 120 = (14, 8) := kB hI 119 (by decide) rfl
theorem kl_121 {n : Nat} {M : Mem} (hI : I n M) : mK M 121 = (10, 8) := kB hI 120 (by decide) rfl
theorem kl_122 {n : Nat} {M : Mem} (hI : I n M) : mK M 122 = (10, 8) := kB hI 121 (by decide) rfl
theorem kl_123 {n : Nat} {M : Mem} (hI : I n M) : mK M 123 = (10, 40) := kB hI 122 (by decide) rfl
theorem kl_124 {n : Nat} {M : Mem} (hI : I n M) : mK M 124 = (11, 40) := kB hI 123 (by decide) rfl
theorem kl_125 {n : Nat} {M : Mem} (hI : I n M) : mK M 125 = (10, 40) := kB hI 124 (by decide) rfl
theorem kl_126 {n : Nat} {M : Mem} (hI : I n M) : mK M 126 = (9, 0) := kB hI 125 (by decide) rfl
theorem kl_127 {n : Nat} {M : Mem} (hI : I n M) : mK M 127 = (12, 1600) := kB hI 126 (by decide) rfl
theorem kl_128 {n : Nat} {M : Mem} (hI : I n M) : mK M 128 = (10, 4) := kB hI 127 (by decide) rfl
theorem kl_129 {n : Nat} {M : Mem} (hI : I n M) : mK M 129 = (10, 4) := kB hI 128 (by decide) rfl
theorem kl_130 {n : Nat} {M : Mem} (hI : I n M) : mK M 130 = (10, 4) := kB hI 129 (by decide) rfl
theorem kl_131 {n : Nat} {M : Mem} (hI : I n M) : mK M 131 = (10, 4) := kB hI 130 (by decide) rfl
theorem kl_132 {n : Nat} {M : Mem} (hI : I n M) : mK M 132 = (10, 4) := kB hI 131 (by decide) rfl
theorem kl_133 {n : Nat} {M : Mem} (hI : I n M) : mK M 133 = (10, 12) := kB hI 132 (by decide) rfl
theorem kl_134 {n : Nat} {M : Mem} (hI : I n M) : mK M 134 = (10, 4) := kB hI 133 (by decide) rfl
theorem kl_135 {n : Nat} {M : Mem} (hI : I n M) : mK M 135 = (10, 16) := kB hI 134 (by decide) rfl
theorem kl_136 {n : Nat} {M : Mem} (hI : I n M) : mK M 136 = (10, 16) := kB hI 135 (by decide) rfl
theorem kl_137 {n : Nat} {M : Mem} (hI : I n M) : mK M 137 = (11, 144) := kB hI 136 (by decide) rfl
theorem kl_138 {n : Nat} {M : Mem} (hI : I n M) : mK M 138 = (10, 4) := kB hI 137 (by decide) rfl
theorem kl_139 {n : Nat} {M : Mem} (hI : I n M) : mK M 139 = (10, 32) := kB hI 138 (by decide) rfl
theorem kl_140 {n : Nat} {M : Mem} (hI : I n M) : mK M 140 = (10, 32) := kB hI 139 (by decide) rfl
theorem kl_141 {n : Nat} {M : Mem} (hI : I n M) : mK M 141 = (10, 36) := kB hI 140 (by decide) rfl
theorem kl_142 {n : Nat} {M : Mem} (hI : I n M) : mK M 142 = (10, 1440) := kB hI 141 (by decide) rfl
theorem kl_143 {n : Nat} {M : Mem} (hI : I n M) : mK M 143 = (10, 1440) := kB hI 142 (by decide) rfl
theorem kl_144 {n : Nat} {M : Mem} (hI : I n M) : mK M 144 = (10, 1440) := kB hI 143 (by decide) rfl
theorem kl_145 {n : Nat} {M : Mem} (hI : I n M) : mK M 145 = (10, 1440) := kB hI 144 (by decide) rfl
theorem kl_146 {n : Nat} {M : Mem} (hI : I n M) : mK M 146 = (10, 4) := kB hI 145 (by decide) rfl
theorem kl_147 {n : Nat} {M : Mem} (hI : I n M) : mK M 147 = (10, 160) := kB hI 146 (by decide) rfl
theorem kl_148 {n : Nat} {M : Mem} (hI : I n M) : mK M 148 = (10, 160) := kB hI 147 (by decide) rfl
theorem kl_149 {n : Nat} {M : Mem} (hI : I n M) : mK M 149 = (10, 160) := kB hI 148 (by decide) rfl
theorem kl_150 {n : Nat} {M : Mem} (hI : I n M) : mK M 150 = (11, 576) := kB hI 149 (by decide) rfl
theorem kl_151 {n : Nat} {M : Mem} (hI : I n M) : mK M 151 = (11, 16) := kB hI 150 (by decide) rfl
theorem kl_152 {n : Nat} {M : Mem} (hI : I n M) : mK M 152 = (10, 3) := kB hI 151 (by decide) rfl
theorem kl_153 {n : Nat} {M : Mem} (hI : I n M) : mK M 153 = (10, 5) := kB hI 152 (by decide) rfl
theorem kl_154 {n : Nat} {M : Mem} (hI : I n M) : mK M 154 = (11, 36) := kB hI 153 (by decide) rfl
theorem kl_155 {n : Nat} {M : Mem} (hI : I n M) : mK M 155 = (10, 420) := kB hI 154 (by decide) rfl
theorem kl_156 {n : Nat} {M : Mem} (hI : I n M) : mK M 156 = (10, 41) := kB hI 155 (by decide) rfl
theorem kl_157 {n : Nat} {M : Mem} (hI : I n M) : mK M 157 = (10, 41) := kB hI 156 (by decide) rfl
theorem kl_158 {n : Nat} {M : Mem} (hI : I n M) : mK M 158 = (10, 41) := kB hI 157 (by decide) rfl
theorem kl_159 {n : Nat} {M : Mem} (hI : I n M) : mK M 159 = (10, 41) := kB hI 158 (by decide) rfl
theorem kl_160 {n : Nat} {M : Mem} (hI : I n M) : mK M 160 = (11, 3321) := kB hI 159 (by decide) rfl
theorem kl_161 {n : Nat} {M : Mem} (hI : I n M) : mK M 161 = (11, 9) := kB hI 160 (by decide) rfl
theorem kl_162 {n : Nat} {M : Mem} (hI : I n M) : mK M 162 = (10, 3) := kB hI 161 (by decide) rfl
theorem kl_163 {n : Nat} {M : Mem} (hI : I n M) : mK M 163 = (11, 256) := kB hI 162 (by decide) rfl
theorem kl_164 {n : Nat} {M : Mem} (hI : I n M) : mK M 164 = (10, 12) := kB hI 163 (by decide) rfl
theorem kl_165 {n : Nat} {M : Mem} (hI : I n M) : mK M 165 = (10, 16) := kB hI 164 (by decide) rfl
theorem kl_166 {n : Nat} {M : Mem} (hI : I n M) : mK M 166 = (11, 65536) := kB hI 165 (by decide) rfl
theorem kl_167 {n : Nat} {M : Mem} (hI : I n M) : mK M 167 = (11, 65536) := kB hI 166 (by decide) rfl
theorem kl_168 {n : Nat} {M : Mem} (hI : I n M) : mK M 168 = (10, 12) := kB hI 167 (by decide) rfl
theorem kl_169 {n : Nat} {M : Mem} (hI : I n M) : mK M 169 = (11, 3) := kB hI 168 (by decide) rfl
theorem ne_fam {a b : Int} {f g : Nat} {P : Prop} (ha : fam a = f) (hb : fam b = g) (h : f ≠ g) (e : a = b) : P := absurd (by rw [← ha, ← hb, e]) h
theorem shape_told {t : Int} (h : isTold t) : isShape (t + 1) := by unfold isTold at h; unfold isShape; omega
theorem w_aGc {β : Type} {Q : β → Prop} {M : Mem} {t n : Nat} {a i r : Int} {f : Int → Option β} (hk : mK M a = (t, n)) (h0 : 0 ≤ i) (h1 : i < (n : Int)) (hc : mG M a i = r) (k : wp (f r) Q) : wp ((aG t M a i).bind f) Q :=
  w_aG hk h0 h1 (fun v hv => by rw [← hv.e, hc]; exact k)
theorem TX.nn {n : Nat} {M : Mem} {t : Int} (h : TX n M t) (h0 : ¬ t = 0) : (169 < t ∧ t + 5 ≤ (n : Int)) ∧ ∃ m : Nat, TextN M t m := by
  rcases h with h | ⟨h1, h2, h3⟩
  · exact absurd h h0
  · exact ⟨⟨h1, h2⟩, h3⟩
theorem TX.cls {n : Nat} {M : Mem} {t : Int} (h : TX n M t) : t = 0 ∨ (mK M t).1 = acl 14 := by
  rcases h with h | ⟨h1, h2, m, h3⟩
  · exact Or.inl h
  · exact Or.inr (congrArg Prod.fst h3.2.2.1)
def OldTx (n : Nat) (M M' : Mem) : Prop := (∀ b : Int, 169 < b → b ≤ (n : Int) → mK M' b = mK M b) ∧ ∀ b j : Int, 169 < b → b ≤ (n : Int) → mG M' b j = mG M b j
theorem otx_st {n : Nat} {M M' : Mem} {a i x : Int} (hM : M' = mS M a i x) (ha : a ≤ 169) : OldTx n M M' := ⟨fun b _ _ => st_k hM b, fun b j h1 _ => st_ne hM (fun z => by omega)⟩
theorem otx_kp {n : Nat} {M M' : Mem} {W : Int → Int → Prop} (hk : Keep n W M M') (hw : ∀ b j, W b j → b ≤ 169) : OldTx n M M' := ⟨fun b _ h => hk.1 b h, fun b j h1 h2 => hk.2.2 b j h2 (fun z => by have := hw b j z; omega)⟩
theorem TX.ot {n : Nat} {M M' : Mem} {t : Int} (h : TX n M t) (o : OldTx n M M') : TX n M' t := h.of (Nat.le_refl _) o.1 o.2
theorem TextN.ot {n m : Nat} {M M' : Mem} {t : Int} (h : TextN M t m) (o : OldTx n M M') (h1 : 169 < t) (h2 : t + 5 ≤ (n : Int)) : TextN M' t m := h.of (fun b b1 b2 => o.1 b (by omega) (by omega)) (fun b j b1 b2 => o.2 b j (by omega) (by omega))
section TN
variable {M : Mem} {t : Int} {m : Nat}
theorem tn_k (h : TextN M t m) : mK M t = (5, 0) := h.2.2.1
theorem tn_0 (h : TextN M t m) : mG M t 0 = t + 1 := h.2.2.2.1
theorem tn_1 (h : TextN M t m) : mG M t 1 = t + 2 := h.2.2.2.2.1
theorem tn_2 (h : TextN M t m) : mG M t 2 = t + 3 := h.2.2.2.2.2.1
theorem tn_3 (h : TextN M t m) : mG M t 3 = t + 4 := h.2.2.2.2.2.2.1
theorem tn_4 (h : TextN M t m) : mG M t 4 = t + 5 := h.2.2.2.2.2.2.2.1
theorem tn_p (h : TextN M t m) : mG M t 5 = (m : Int) ∧ 1 ≤ mG M t 5 ∧ mG M t 5 ≤ 40 := by have e := h.2.2.2.2.2.2.2.2.1; have := h.1; have := h.2.1; omega
theorem tn_a0 (h : TextN M t m) : mK M (t + 1) = (10, m) := h.2.2.2.2.2.2.2.2.2.1
theorem tn_a1 (h : TextN M t m) : mK M (t + 2) = (10, m) := h.2.2.2.2.2.2.2.2.2.2.1
theorem tn_a2 (h : TextN M t m) : mK M (t + 3) = (10, m) := h.2.2.2.2.2.2.2.2.2.2.2.1
theorem tn_a3 (h : TextN M t m) : mK M (t + 4) = (10, m) := h.2.2.2.2.2.2.2.2.2.2.2.2.1
theorem tn_a4 (h : TextN M t m) : mK M (t + 5) = (10, m) := h.2.2.2.2.2.2.2.2.2.2.2.2.2.1
theorem tn_b (h : TextN M t m) {j : Int} : 0 ≤ mG M (t + 5) j ∧ mG M (t + 5) j ≤ 40 := h.2.2.2.2.2.2.2.2.2.2.2.2.2.2 j
end TN
theorem idiv_in (x y : Int) : -2147483648 ≤ idiv x y ∧ idiv x y < 2147483648 := i32_in _
theorem irem_in (x y : Int) : -2147483648 ≤ irem x y ∧ irem x y < 2147483648 := i32_in _
def NP (M : Mem) : Prop := ∀ k : Int, 0 ≤ k → k < 3 → 1 ≤ mG M 152 k ∧ mG M 152 k ≤ 3
def F12 (M : Mem) : Prop := mG M 153 (mG M 134 0) ≤ 12
def JS (M : Mem) : Prop := isShape (mG M 20 0)
def JT (M : Mem) : Prop := ¬ mG M 20 1 = 0
def RR (M : Mem) : Prop := mG M 65 0 = 3 ∧ mG M 65 1 = 13 ∧ mG M 65 3 = 4
theorem NP_of {M M' : Mem} (h : NP M) (g : ∀ j, mG M' 152 j = mG M 152 j) : NP M' := fun k h0 h1 => by rw [g]; exact h k h0 h1
theorem F12_of {M M' : Mem} (h : F12 M) (g : ∀ j, mG M' 153 j = mG M 153 j) (g2 : ∀ j, mG M' 134 j = mG M 134 j) : F12 M' := by unfold F12; rw [g2, g]; exact h
theorem JS_of {M M' : Mem} (h : JS M) (g : mG M' 20 0 = mG M 20 0) : JS M' := by unfold JS; rw [g]; exact h
theorem JT_of {M M' : Mem} (h : JT M) (g : mG M' 20 1 = mG M 20 1) : JT M' := by unfold JT; rw [g]; exact h
theorem RR_of {M M' : Mem} (h : RR M) (g : mG M' 65 0 = mG M 65 0) (g2 : mG M' 65 1 = mG M 65 1) (g3 : mG M' 65 3 = mG M 65 3) : RR M' := ⟨g.trans h.1, g2.trans h.2.1, g3.trans h.2.2⟩
theorem NP.mk {M : Mem} {a b c : Int} (h0 : mG M 152 0 = a) (h1 : mG M 152 1 = b) (h2 : mG M 152 2 = c) (ha : 1 ≤ a ∧ a ≤ 3) (hb : 1 ≤ b ∧ b ≤ 3) (hc : 1 ≤ c ∧ c ≤ 3) : NP M := fun k k0 k1 => by
  obtain e | e | e : k = 0 ∨ k = 1 ∨ k = 2 := by omega
  · rw [e, h0]; exact ha
  · rw [e, h1]; exact hb
  · rw [e, h2]; exact hc
theorem KI.sz {M M' : Mem} {i x : Int} (h : KI M) (hM : M' = mS M 133 i x) (hi : i < 3) : KI M' := fun k k0 k1 hk j j0 j1 => by
  rw [st_ne hM (fun z => absurd z.1 (by decide))] at hk
  rw [st_ne hM (fun z => by omega)]
  exact h k k0 k1 hk j j0 j1
theorem sLen_r (k : Nat) : 0 ≤ ((sLen.getD k 0 : Nat) : Int) ∧ ((sLen.getD k 0 : Nat) : Int) ≤ 9 := by
  refine ⟨Int.natCast_nonneg _, ?_⟩
  by_cases h : k < 14
  · have := sLen_lt k h; omega
  · rw [List.getD_eq_getElem?_getD, List.getElem?_eq_none (by show 14 ≤ k; omega)]; decide
theorem ordL_r (k : Nat) : 0 ≤ ordL.getD k 0 ∧ ordL.getD k 0 ≤ 2 := by
  by_cases h : k < 18
  · have : ∀ k : Nat, k < 18 → 0 ≤ ordL.getD k 0 ∧ ordL.getD k 0 ≤ 2 := by decide +kernel
    exact this k h
  · rw [List.getD_eq_getElem?_getD, List.getElem?_eq_none (by show 18 ≤ k; omega)]; decide
theorem ordN_r (k : Nat) (hk : k < 4) : 1 ≤ ordN.getD k 0 ∧ ordN.getD k 0 ≤ 6 := by
  have : ∀ k : Nat, k < 4 → 1 ≤ ordN.getD k 0 ∧ ordN.getD k 0 ≤ 6 := by decide +kernel
  exact this k hk
/-- the judge's text has a part x -/
def LPt (n : Nat) (M : Mem) (x : Int) : Prop := ∃ m : Nat, TextN M (mG M 20 1) m ∧ 169 < mG M 20 1 ∧ mG M 20 1 + 5 ≤ (n : Int) ∧ x < (m : Int)
theorem LPt_of {n : Nat} {M M' : Mem} {x : Int} (h : LPt n M x) (g : mG M' 20 1 = mG M 20 1) (o : OldTx n M M') : LPt n M' x := by
  obtain ⟨m, h1, h2, h3, h4⟩ := h
  refine ⟨m, ?_, ?_, ?_, h4⟩
  · rw [g]; exact h1.ot o h2 h3
  · rw [g]; exact h2
  · rw [g]; exact h3
theorem LPt.mk {n m : Nat} {M : Mem} {x t : Int} (g : mG M 20 1 = t) (h : TextN M t m) (q : 169 < t ∧ t + 5 ≤ (n : Int)) (hx : x < (m : Int)) : LPt n M x := by
  subst g; exact ⟨m, h, q.1, q.2, hx⟩
theorem LPt.use {n m : Nat} {M : Mem} {x t : Int} (h : LPt n M x) (g : mG M 20 1 = t) (h2 : TextN M t m) : x < (m : Int) := by
  subst g
  obtain ⟨m2, h1, _, _, h4⟩ := h
  have e1 := (tn_p h1).1
  have e2 := (tn_p h2).1
  omega
theorem LPt.mono {n : Nat} {M : Mem} {x y : Int} (h : LPt n M x) (hy : y ≤ x) : LPt n M y := by
  obtain ⟨m2, h1, h2, h3, h4⟩ := h
  exact ⟨m2, h1, h2, h3, by omega⟩
/-- there are more facts than x -/
def BM (M : Mem) (x : Int) : Prop := x < mG M 153 (mG M 134 0) ∧ 1 ≤ mG M 134 0
theorem BM_of {M M' : Mem} {x : Int} (h : BM M x) (g : ∀ j, mG M' 153 j = mG M 153 j) (g2 : ∀ j, mG M' 134 j = mG M 134 j) : BM M' x := by
  unfold BM; rw [g2, g]; exact h
theorem BM.mono {M : Mem} {x y : Int} (h : BM M x) (hy : y ≤ x) : BM M y := ⟨by have := h.1; omega, h.2⟩
theorem BM.mk {n : Nat} {M : Mem} {x v : Int} (hI : I n M) (e : v = mG M 153 (mG M 134 0)) (hx : x < v) (hv : 0 < v) : BM M x := by
  have r := rd_Mrelations (i := 0) hI (a := 134) rfl
  have z := rd_Mstart (i := mG M 134 0) hI (a := 153) rfl (by omega) (by omega)
  exact ⟨by omega, by omega⟩
/-- a part of a text that has been told, in the reference's rows -/
def VL (M : Mem) (x : Int) : Prop := (9 ≤ mG M 142 x → 0 ≤ mG M 143 x ∧ mG M 143 x ≤ 3) ∧ (mG M 142 x ≤ 3 → 0 ≤ mG M 144 x ∧ mG M 144 x ≤ 2)
theorem VL_of {M M' : Mem} {x : Int} (h : VL M x) (g : ∀ j, mG M' 142 j = mG M 142 j) (g2 : ∀ j, mG M' 143 j = mG M 143 j) (g3 : ∀ j, mG M' 144 j = mG M 144 j) : VL M' x := by
  unfold VL; rw [g, g2, g3]; exact h
theorem VL.mono {M : Mem} {x y : Int} (h : VL M x) (hy : y = x) : VL M y := by subst hy; exact h
def arN (a : Int) : Int := if a ≤ 4 then 1 else if a ≤ 7 then 2 else 0
/-- a text's parts, as a tree written from its root -/
def WFt (M : Mem) (t : Int) : Prop := (∃ h : Nat → Int, h (mG M 141 t).toNat = 0 ∧ ∀ k : Nat, (k : Int) < mG M 141 t → arN (mG M 142 (40 * t + k)) ≤ h (k + 1) ∧ h k = h (k + 1) + 1 - arN (mG M 142 (40 * t + k)) ∧ VL M (40 * t + k)) ∧ (1 ≤ mG M 141 t → ∃ a : Nat, a ≤ 4 ∧ (a : Int) < mG M 141 t ∧ ¬ mG M 142 (40 * t + a) = 0)
def WF (M : Mem) : Prop := (∀ t : Int, 0 ≤ t → t < 36 → WFt M t) ∧ ∀ i : Int, 0 ≤ i → i < 4 → ∀ s : Int, 0 ≤ s → s < mG M 138 i → 1 ≤ mG M 141 (9 * i + s)
theorem WFt_of {M M' : Mem} {t t' : Int} (h : WFt M t) (g0 : mG M' 141 t' = mG M 141 t) (g : ∀ k : Nat, (k : Int) < mG M 141 t → mG M' 142 (40 * t' + k) = mG M 142 (40 * t + k) ∧ mG M' 143 (40 * t' + k) = mG M 143 (40 * t + k) ∧ mG M' 144 (40 * t' + k) = mG M 144 (40 * t + k)) : WFt M' t' := by
  obtain ⟨⟨f, h1, h2⟩, h3⟩ := h
  refine ⟨⟨f, by rw [g0]; exact h1, fun k hk => ?_⟩, fun z => ?_⟩
  · rw [g0] at hk
    obtain ⟨a, b, c⟩ := h2 k hk
    obtain ⟨g1, g2, g3⟩ := g k hk
    unfold VL
    rw [g1, g2, g3]
    exact ⟨a, b, c⟩
  · rw [g0] at z
    obtain ⟨a, a1, a2, a3⟩ := h3 z
    exact ⟨a, a1, by rw [g0]; exact a2, by rw [(g a a2).1]; exact a3⟩
theorem WF_of {M M' : Mem} (h : WF M) (g0 : ∀ j, mG M' 141 j = mG M 141 j) (g : ∀ j, mG M' 142 j = mG M 142 j) (g2 : ∀ j, mG M' 143 j = mG M 143 j) (g3 : ∀ j, mG M' 144 j = mG M 144 j) (g4 : ∀ j, mG M' 138 j = mG M 138 j) : WF M' :=
  ⟨fun t t0 t1 => WFt_of (h.1 t t0 t1) (g0 t) (fun k _ => ⟨g _, g2 _, g3 _⟩), fun i i0 i1 s s0 s1 => by rw [g0]; rw [g4] at s1; exact h.2 i i0 i1 s s0 s1⟩
/-- where a relation's facts start, by the sizes -/
def szF (M : Mem) (k : Int) : Int := if k = -1 then 1 else mG M 133 k
def stF (M : Mem) : Nat → Int
  | 0 => 0
  | r + 1 => stF M r + szF M (mG M 135 r) * szF M (mG M 136 r)
def SF (M : Mem) : Prop := (∀ r : Nat, (r : Int) ≤ mG M 134 0 → mG M 153 r = stF M r) ∧ ∀ k : Int, 0 ≤ k → k < 3 → mG M 152 k = mG M 133 k
theorem stF_of {M M' : Mem} (g : ∀ j, mG M' 133 j = mG M 133 j) (g2 : ∀ j, mG M' 135 j = mG M 135 j) (g3 : ∀ j, mG M' 136 j = mG M 136 j) : ∀ r : Nat, stF M' r = stF M r := by
  intro r
  induction r with
  | zero => rfl
  | succ r ih =>
    show stF M' r + szF M' (mG M' 135 r) * szF M' (mG M' 136 r) = stF M r + szF M (mG M 135 r) * szF M (mG M 136 r)
    unfold szF
    rw [ih, g2, g3, g, g]
/-- x is below the number of facts, by the sizes -/
def FB (M : Mem) (x : Int) : Prop := x < stF M (mG M 134 0).toNat
theorem FB_of {M M' : Mem} {x : Int} (h : FB M x) (g : ∀ j, mG M' 133 j = mG M 133 j) (g1 : ∀ j, mG M' 134 j = mG M 134 j) (g2 : ∀ j, mG M' 135 j = mG M 135 j) (g3 : ∀ j, mG M' 136 j = mG M 136 j) : FB M' x := by
  unfold FB; rw [g1, stF_of g g2 g3]; exact h
theorem FB.mono {M : Mem} {x y : Int} (h : FB M x) (hy : y ≤ x) : FB M y := Int.lt_of_le_of_lt hy h
theorem FB.lt {n : Nat} {M : Mem} {x : Int} (h : FB M x) (s : SF M) (f : F12 M) (hI : I n M) : x < 12 := by
  have r := rd_Mrelations (i := 0) hI (a := 134) rfl
  have e := s.1 (mG M 134 0).toNat (by omega)
  rw [show (((mG M 134 0).toNat : Nat) : Int) = mG M 134 0 by omega] at e
  unfold F12 at f
  unfold FB at h
  omega
theorem SF_of {M M' : Mem} (h : SF M) (g0 : ∀ j, mG M' 153 j = mG M 153 j) (g1 : ∀ j, mG M' 134 j = mG M 134 j) (g : ∀ j, mG M' 133 j = mG M 133 j) (g2 : ∀ j, mG M' 135 j = mG M 135 j) (g3 : ∀ j, mG M' 136 j = mG M 136 j) (g4 : ∀ j, mG M' 152 j = mG M 152 j) : SF M' :=
  ⟨fun r hr => by rw [g0, stF_of g g2 g3]; rw [g1] at hr; exact h.1 r hr, fun k h0 h1 => by rw [g4, g]; exact h.2 k h0 h1⟩
/-! ===== copies of rows ===== -/
theorem cp_k {M M' : Mem} {a0 sp a dp x : Int} (hM : M' = mC M a0 sp a dp x) (b : Int) : mK M' b = mK M b := by subst hM; rfl
theorem cp_n {M M' : Mem} {a0 sp a dp x : Int} (hM : M' = mC M a0 sp a dp x) : mN M' = mN M := by subst hM; rfl
theorem cp_g {M M' : Mem} {a0 sp a dp x : Int} (hM : M' = mC M a0 sp a dp x) (b j : Int) : mG M' b j = if b = a ∧ dp ≤ j ∧ j < dp + x then mG M a0 (sp + (j - dp)) else mG M b j := by subst hM; rfl
theorem cp_ne {M M' : Mem} {a0 sp a dp x b j : Int} (hM : M' = mC M a0 sp a dp x) (h : ¬ b = a) : mG M' b j = mG M b j := by rw [cp_g hM, if_neg (fun z => h z.1)]
theorem Keep.cp {n : Nat} {W : Int → Int → Prop} {M M1 M2 : Mem} {a0 sp a dp x : Int} (h1 : Keep n W M M1) (hM : M2 = mC M1 a0 sp a dp x) (hw : ∀ j, W a j) : Keep n W M M2 :=
  ⟨fun b hb => (cp_k hM b).trans (h1.1 b hb), by rw [cp_n hM]; exact h1.2.1, fun b j hb hn => by
    rw [cp_ne hM (fun z => by subst z; exact hn (hw j))]; exact h1.2.2 b j hb hn⟩
theorem otx_cp {n : Nat} {M M' : Mem} {a0 sp a dp x : Int} (hM : M' = mC M a0 sp a dp x) (ha : a ≤ 169) : OldTx n M M' := ⟨fun b _ _ => cp_k hM b, fun b j h1 _ => cp_ne hM (fun z => by omega)⟩
theorem I.cp {n : Nat} {M M' : Mem} {a0 sp a dp x : Int} {f : Nat} (h : I n M) (hM : M' = mC M a0 sp a dp x) (hf : fam a = f) (hx : ∀ j : Int, 0 ≤ j → j < x → okf f a (dp + j) (mG M a0 (sp + j))) (hs : f ≠ 0 ∧ f ≠ 14 ∧ f ≠ 10 ∧ f ≠ 27 ∧ f ≠ 49 ∧ f ≠ 85) : I n M' := by
  obtain ⟨h1, h2, ⟨h3, h4, h5⟩, h6, h7, h8⟩ := h
  have ha : a ≤ 169 := Decidable.byContradiction fun z => hs.1 (by rw [← hf, fam_out (by omega)])
  have o : OldTx n M M' := otx_cp hM ha
  have tx : ∀ t : Int, TX n M t → TX n M' t := fun t ht => ht.ot o
  refine ⟨fun b hb => by rw [cp_k hM]; exact h1 b hb, fun b j => ?_, ⟨fun t j ht hj hj2 => ?_, fun t ht => ?_, ?_⟩, by rw [cp_n hM]; exact h6, h7, ?_⟩
  · rw [cp_g hM]; split
    · rename_i z
      obtain ⟨z1, z2, z3⟩ := z
      subst z1
      rw [hf]
      have := hx (j - dp) (by omega) (by omega)
      rw [show dp + (j - dp) = j by omega] at this
      exact this
    · exact h2 b j
  · rw [cp_ne hM (fun z => by rw [← z, f_Ttexts ht] at hf; exact hs.2.1 hf.symm)]; exact tx _ (h3 t j ht hj hj2)
  · rw [cp_ne hM (fun z => by rw [← z, f_Told ht] at hf; exact hs.2.2.1 hf.symm)]; exact tx _ (h4 t ht)
  · rw [cp_ne hM (fun z => by rw [← z] at hf; exact hs.2.2.2.1 hf.symm)]; exact tx _ h5
  · intro k k0 k1 hk j j0 j1
    rw [cp_ne hM (fun z => by rw [← z] at hf; exact hs.2.2.2.2.2 hf.symm)] at hk
    rw [cp_ne hM (fun z => by rw [← z] at hf; exact hs.2.2.2.2.1 hf.symm)]
    exact h8 k k0 k1 hk j j0 j1
