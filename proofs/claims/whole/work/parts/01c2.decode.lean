theorem dX12_read_67 : decode cX12_read 67 = .ok (.getfield 79, 3) := by decide +kernel
theorem dX12_read_70 : decode cX12_read 70 = .ok (.iconst 1, 1) := by decide +kernel
theorem dX12_read_71 : decode cX12_read 71 = .ok (.if_icmp .le 7, 3) := by decide +kernel
theorem dX12_read_74 : decode cX12_read 74 = .ok (.iconst 1, 1) := by decide +kernel
theorem dX12_read_75 : decode cX12_read 75 = .ok (.goto 4, 3) := by decide +kernel
theorem dX12_read_78 : decode cX12_read 78 = .ok (.iconst 0, 1) := by decide +kernel
theorem dX12_read_79 : decode cX12_read 79 = .ok (.istore_n 3, 1) := by decide +kernel
theorem dX12_read_80 : decode cX12_read 80 = .ok (.iload_n 3, 1) := by decide +kernel
theorem dX12_read_81 : decode cX12_read 81 = .ok (.ifCond .eq 54, 3) := by decide +kernel
theorem dX12_read_84 : decode cX12_read 84 = .ok (.aload_n 0, 1) := by decide +kernel
theorem dX12_read_85 : decode cX12_read 85 = .ok (.aload_n 0, 1) := by decide +kernel
theorem dX12_read_86 : decode cX12_read 86 = .ok (.iload_n 1, 1) := by decide +kernel
theorem dX12_read_87 : decode cX12_read 87 = .ok (.iconst 1, 1) := by decide +kernel
theorem dX12_read_88 : decode cX12_read 88 = .ok (.iadd, 1) := by decide +kernel
theorem dX12_read_89 : decode cX12_read 89 = .ok (.iconst 0, 1) := by decide +kernel
theorem dX12_read_90 : decode cX12_read 90 = .ok (.invokevirtual 71, 3) := by decide +kernel
theorem dX12_read_93 : decode cX12_read 93 = .ok (.ifCond .eq 17, 3) := by decide +kernel
theorem dX12_read_96 : decode cX12_read 96 = .ok (.iload_n 1, 1) := by decide +kernel
theorem dX12_read_97 : decode cX12_read 97 = .ok (.iconst 2, 1) := by decide +kernel
theorem dX12_read_98 : decode cX12_read 98 = .ok (.iadd, 1) := by decide +kernel
theorem dX12_read_99 : decode cX12_read 99 = .ok (.aload_n 0, 1) := by decide +kernel
theorem dX12_read_100 : decode cX12_read 100 = .ok (.getfield 63, 3) := by decide +kernel
theorem dX12_read_103 : decode cX12_read 103 = .ok (.if_icmp .ne 7, 3) := by decide +kernel
theorem dX12_read_106 : decode cX12_read 106 = .ok (.iconst 1, 1) := by decide +kernel
theorem dX12_read_107 : decode cX12_read 107 = .ok (.goto 4, 3) := by decide +kernel
theorem dX12_read_110 : decode cX12_read 110 = .ok (.iconst 0, 1) := by decide +kernel
theorem dX12_read_111 : decode cX12_read 111 = .ok (.putfield 75, 3) := by decide +kernel
theorem dX12_read_114 : decode cX12_read 114 = .ok (.aload_n 0, 1) := by decide +kernel
theorem dX12_read_115 : decode cX12_read 115 = .ok (.iload_n 1, 1) := by decide +kernel
theorem dX12_read_116 : decode cX12_read 116 = .ok (.iconst 1, 1) := by decide +kernel
theorem dX12_read_117 : decode cX12_read 117 = .ok (.iadd, 1) := by decide +kernel
theorem dX12_read_118 : decode cX12_read 118 = .ok (.iconst 0, 1) := by decide +kernel
theorem dX12_read_119 : decode cX12_read 119 = .ok (.invokevirtual 71, 3) := by decide +kernel
theorem dX12_read_122 : decode cX12_read 122 = .ok (.ifCond .eq 9, 3) := by decide +kernel
theorem dX12_read_125 : decode cX12_read 125 = .ok (.iload_n 1, 1) := by decide +kernel
theorem dX12_read_126 : decode cX12_read 126 = .ok (.iconst 2, 1) := by decide +kernel
theorem dX12_read_127 : decode cX12_read 127 = .ok (.iadd, 1) := by decide +kernel
theorem dX12_read_128 : decode cX12_read 128 = .ok (.goto 6, 3) := by decide +kernel
theorem dX12_read_131 : decode cX12_read 131 = .ok (.iload_n 1, 1) := by decide +kernel
theorem dX12_read_132 : decode cX12_read 132 = .ok (.iconst 1, 1) := by decide +kernel
theorem dX12_read_133 : decode cX12_read 133 = .ok (.iadd, 1) := by decide +kernel
theorem dX12_read_134 : decode cX12_read 134 = .ok (.ireturn, 1) := by decide +kernel
theorem dX12_read_135 : decode cX12_read 135 = .ok (.iload_n 1, 1) := by decide +kernel
theorem dX12_read_136 : decode cX12_read 136 = .ok (.aload_n 0, 1) := by decide +kernel
theorem dX12_read_137 : decode cX12_read 137 = .ok (.getfield 63, 3) := by decide +kernel
theorem dX12_read_140 : decode cX12_read 140 = .ok (.if_icmp .eq 22, 3) := by decide +kernel
theorem dX12_read_143 : decode cX12_read 143 = .ok (.aload_n 0, 1) := by decide +kernel
theorem dX12_read_144 : decode cX12_read 144 = .ok (.getfield 79, 3) := by decide +kernel
theorem dX12_read_147 : decode cX12_read 147 = .ok (.iconst 5, 1) := by decide +kernel
theorem dX12_read_148 : decode cX12_read 148 = .ok (.if_icmp .eq 14, 3) := by decide +kernel
theorem dX12_read_151 : decode cX12_read 151 = .ok (.aload_n 0, 1) := by decide +kernel
theorem dX12_read_152 : decode cX12_read 152 = .ok (.getfield 34, 3) := by decide +kernel
theorem dX12_read_155 : decode cX12_read 155 = .ok (.iload_n 1, 1) := by decide +kernel
theorem dX12_read_156 : decode cX12_read 156 = .ok (.baload, 1) := by decide +kernel
theorem dX12_read_157 : decode cX12_read 157 = .ok (.bipush 44, 2) := by decide +kernel
theorem dX12_read_159 : decode cX12_read 159 = .ok (.if_icmp .eq 5, 3) := by decide +kernel
theorem dX12_read_162 : decode cX12_read 162 = .ok (.iload_n 1, 1) := by decide +kernel
theorem dX12_read_163 : decode cX12_read 163 = .ok (.ireturn, 1) := by decide +kernel
theorem dX12_read_164 : decode cX12_read 164 = .ok (.iinc 1 1, 3) := by decide +kernel
theorem dX12_read_167 : decode cX12_read 167 = .ok (.goto (-155), 3) := by decide +kernel
theorem dX12_read_170 : decode cX12_read 170 = .ok (.iload_n 1, 1) := by decide +kernel
theorem dX12_read_171 : decode cX12_read 171 = .ok (.ireturn, 1) := by decide +kernel
theorem dX12_fault_0 : decode cX12_fault 0 = .ok (.aload_n 0, 1) := by decide +kernel
theorem dX12_fault_1 : decode cX12_fault 1 = .ok (.invokevirtual 85, 3) := by decide +kernel
theorem dX12_fault_4 : decode cX12_fault 4 = .ok (.ireturn, 1) := by decide +kernel
theorem dX12_hall_0 : decode cX12_hall 0 = .ok (.aload_n 0, 1) := by decide +kernel
theorem dX12_hall_1 : decode cX12_hall 1 = .ok (.invokevirtual 85, 3) := by decide +kernel
theorem dX12_hall_4 : decode cX12_hall 4 = .ok (.istore_n 1, 1) := by decide +kernel
theorem dX12_hall_5 : decode cX12_hall 5 = .ok (.aload_n 0, 1) := by decide +kernel
theorem dX12_hall_6 : decode cX12_hall 6 = .ok (.getfield 75, 3) := by decide +kernel
theorem dX12_hall_9 : decode cX12_hall 9 = .ok (.ifCond .ne 6, 3) := by decide +kernel
theorem dX12_hall_12 : decode cX12_hall 12 = .ok (.bipush (-103), 2) := by decide +kernel
theorem dX12_hall_14 : decode cX12_hall 14 = .ok (.ireturn, 1) := by decide +kernel
theorem dX12_hall_15 : decode cX12_hall 15 = .ok (.aload_n 0, 1) := by decide +kernel
theorem dX12_hall_16 : decode cX12_hall 16 = .ok (.aload_n 0, 1) := by decide +kernel
theorem dX12_hall_17 : decode cX12_hall 17 = .ok (.getfield 79, 3) := by decide +kernel
theorem dX12_hall_20 : decode cX12_hall 20 = .ok (.putfield 89, 3) := by decide +kernel
theorem dX12_hall_23 : decode cX12_hall 23 = .ok (.aload_n 0, 1) := by decide +kernel
theorem dX12_hall_24 : decode cX12_hall 24 = .ok (.aload_n 0, 1) := by decide +kernel
theorem dX12_hall_25 : decode cX12_hall 25 = .ok (.getfield 34, 3) := by decide +kernel
theorem dX12_hall_28 : decode cX12_hall 28 = .ok (.iload_n 1, 1) := by decide +kernel
theorem dX12_hall_29 : decode cX12_hall 29 = .ok (.iconst 1, 1) := by decide +kernel
theorem dX12_hall_30 : decode cX12_hall 30 = .ok (.isub, 1) := by decide +kernel
theorem dX12_hall_31 : decode cX12_hall 31 = .ok (.baload, 1) := by decide +kernel
theorem dX12_hall_32 : decode cX12_hall 32 = .ok (.bipush 48, 2) := by decide +kernel
theorem dX12_hall_34 : decode cX12_hall 34 = .ok (.isub, 1) := by decide +kernel
theorem dX12_hall_35 : decode cX12_hall 35 = .ok (.putfield 92, 3) := by decide +kernel
theorem dX12_hall_38 : decode cX12_hall 38 = .ok (.iconst 0, 1) := by decide +kernel
theorem dX12_hall_39 : decode cX12_hall 39 = .ok (.istore_n 2, 1) := by decide +kernel
theorem dX12_hall_40 : decode cX12_hall 40 = .ok (.iload_n 2, 1) := by decide +kernel
theorem dX12_hall_41 : decode cX12_hall 41 = .ok (.aload_n 0, 1) := by decide +kernel
theorem dX12_hall_42 : decode cX12_hall 42 = .ok (.getfield 89, 3) := by decide +kernel
theorem dX12_hall_45 : decode cX12_hall 45 = .ok (.if_icmp .ge 97, 3) := by decide +kernel
theorem dX12_hall_48 : decode cX12_hall 48 = .ok (.aload_n 0, 1) := by decide +kernel
theorem dX12_hall_49 : decode cX12_hall 49 = .ok (.getfield 7, 3) := by decide +kernel
theorem dX12_hall_52 : decode cX12_hall 52 = .ok (.iload_n 2, 1) := by decide +kernel
theorem dX12_hall_53 : decode cX12_hall 53 = .ok (.aload_n 0, 1) := by decide +kernel
theorem dX12_hall_54 : decode cX12_hall 54 = .ok (.getfield 34, 3) := by decide +kernel
theorem dX12_hall_57 : decode cX12_hall 57 = .ok (.iconst 5, 1) := by decide +kernel
theorem dX12_hall_58 : decode cX12_hall 58 = .ok (.iload_n 2, 1) := by decide +kernel
theorem dX12_hall_59 : decode cX12_hall 59 = .ok (.imul, 1) := by decide +kernel
theorem dX12_hall_60 : decode cX12_hall 60 = .ok (.baload, 1) := by decide +kernel
theorem dX12_hall_61 : decode cX12_hall 61 = .ok (.invokestatic 67, 3) := by decide +kernel
theorem dX12_hall_64 : decode cX12_hall 64 = .ok (.iastore, 1) := by decide +kernel
theorem dX12_hall_65 : decode cX12_hall 65 = .ok (.aload_n 0, 1) := by decide +kernel
theorem dX12_hall_66 : decode cX12_hall 66 = .ok (.getfield 13, 3) := by decide +kernel
theorem dX12_hall_69 : decode cX12_hall 69 = .ok (.iload_n 2, 1) := by decide +kernel
theorem dX12_hall_70 : decode cX12_hall 70 = .ok (.aload_n 0, 1) := by decide +kernel
theorem dX12_hall_71 : decode cX12_hall 71 = .ok (.getfield 34, 3) := by decide +kernel
theorem dX12_hall_74 : decode cX12_hall 74 = .ok (.iconst 5, 1) := by decide +kernel
theorem dX12_hall_75 : decode cX12_hall 75 = .ok (.iload_n 2, 1) := by decide +kernel
theorem dX12_hall_76 : decode cX12_hall 76 = .ok (.imul, 1) := by decide +kernel
theorem dX12_hall_77 : decode cX12_hall 77 = .ok (.iconst 1, 1) := by decide +kernel
theorem dX12_hall_78 : decode cX12_hall 78 = .ok (.iadd, 1) := by decide +kernel
theorem dX12_hall_79 : decode cX12_hall 79 = .ok (.baload, 1) := by decide +kernel
theorem dX12_hall_80 : decode cX12_hall 80 = .ok (.bipush 48, 2) := by decide +kernel
theorem dX12_hall_82 : decode cX12_hall 82 = .ok (.isub, 1) := by decide +kernel
theorem dX12_hall_83 : decode cX12_hall 83 = .ok (.iastore, 1) := by decide +kernel
theorem dX12_hall_84 : decode cX12_hall 84 = .ok (.aload_n 0, 1) := by decide +kernel
theorem dX12_hall_85 : decode cX12_hall 85 = .ok (.getfield 16, 3) := by decide +kernel
theorem dX12_hall_88 : decode cX12_hall 88 = .ok (.iload_n 2, 1) := by decide +kernel
theorem dX12_hall_89 : decode cX12_hall 89 = .ok (.aload_n 0, 1) := by decide +kernel
theorem dX12_hall_90 : decode cX12_hall 90 = .ok (.getfield 34, 3) := by decide +kernel
theorem dX12_hall_93 : decode cX12_hall 93 = .ok (.iconst 5, 1) := by decide +kernel
theorem dX12_hall_94 : decode cX12_hall 94 = .ok (.iload_n 2, 1) := by decide +kernel
theorem dX12_hall_95 : decode cX12_hall 95 = .ok (.imul, 1) := by decide +kernel
theorem dX12_hall_96 : decode cX12_hall 96 = .ok (.iconst 2, 1) := by decide +kernel
theorem dX12_hall_97 : decode cX12_hall 97 = .ok (.iadd, 1) := by decide +kernel
theorem dX12_hall_98 : decode cX12_hall 98 = .ok (.baload, 1) := by decide +kernel
theorem dX12_hall_99 : decode cX12_hall 99 = .ok (.bipush 48, 2) := by decide +kernel
theorem dX12_hall_101 : decode cX12_hall 101 = .ok (.isub, 1) := by decide +kernel
theorem dX12_hall_102 : decode cX12_hall 102 = .ok (.iastore, 1) := by decide +kernel
theorem dX12_hall_103 : decode cX12_hall 103 = .ok (.aload_n 0, 1) := by decide +kernel
theorem dX12_hall_104 : decode cX12_hall 104 = .ok (.getfield 19, 3) := by decide +kernel
theorem dX12_hall_107 : decode cX12_hall 107 = .ok (.iload_n 2, 1) := by decide +kernel
theorem dX12_hall_108 : decode cX12_hall 108 = .ok (.aload_n 0, 1) := by decide +kernel
theorem dX12_hall_109 : decode cX12_hall 109 = .ok (.getfield 34, 3) := by decide +kernel
theorem dX12_hall_112 : decode cX12_hall 112 = .ok (.iconst 5, 1) := by decide +kernel
theorem dX12_hall_113 : decode cX12_hall 113 = .ok (.iload_n 2, 1) := by decide +kernel
theorem dX12_hall_114 : decode cX12_hall 114 = .ok (.imul, 1) := by decide +kernel
theorem dX12_hall_115 : decode cX12_hall 115 = .ok (.iconst 3, 1) := by decide +kernel
theorem dX12_hall_116 : decode cX12_hall 116 = .ok (.iadd, 1) := by decide +kernel
theorem dX12_hall_117 : decode cX12_hall 117 = .ok (.baload, 1) := by decide +kernel
theorem dX12_hall_118 : decode cX12_hall 118 = .ok (.bipush 48, 2) := by decide +kernel
theorem dX12_hall_120 : decode cX12_hall 120 = .ok (.isub, 1) := by decide +kernel
theorem dX12_hall_121 : decode cX12_hall 121 = .ok (.iastore, 1) := by decide +kernel
theorem dX12_hall_122 : decode cX12_hall 122 = .ok (.aload_n 0, 1) := by decide +kernel
theorem dX12_hall_123 : decode cX12_hall 123 = .ok (.getfield 22, 3) := by decide +kernel
theorem dX12_hall_126 : decode cX12_hall 126 = .ok (.iload_n 2, 1) := by decide +kernel
theorem dX12_hall_127 : decode cX12_hall 127 = .ok (.iconst (-1), 1) := by decide +kernel
theorem dX12_hall_128 : decode cX12_hall 128 = .ok (.iastore, 1) := by decide +kernel
theorem dX12_hall_129 : decode cX12_hall 129 = .ok (.aload_n 0, 1) := by decide +kernel
theorem dX12_hall_130 : decode cX12_hall 130 = .ok (.getfield 25, 3) := by decide +kernel
theorem dX12_hall_133 : decode cX12_hall 133 = .ok (.iload_n 2, 1) := by decide +kernel
theorem dX12_hall_134 : decode cX12_hall 134 = .ok (.iconst 0, 1) := by decide +kernel
theorem dX12_hall_135 : decode cX12_hall 135 = .ok (.iastore, 1) := by decide +kernel
theorem dX12_hall_136 : decode cX12_hall 136 = .ok (.iinc 2 1, 3) := by decide +kernel
theorem dX12_hall_139 : decode cX12_hall 139 = .ok (.goto (-99), 3) := by decide +kernel
theorem dX12_hall_142 : decode cX12_hall 142 = .ok (.aload_n 0, 1) := by decide +kernel
theorem dX12_hall_143 : decode cX12_hall 143 = .ok (.dup, 1) := by decide +kernel
theorem dX12_hall_144 : decode cX12_hall 144 = .ok (.getfield 95, 3) := by decide +kernel
theorem dX12_hall_147 : decode cX12_hall 147 = .ok (.iconst 1, 1) := by decide +kernel
theorem dX12_hall_148 : decode cX12_hall 148 = .ok (.iadd, 1) := by decide +kernel
theorem dX12_hall_149 : decode cX12_hall 149 = .ok (.putfield 95, 3) := by decide +kernel
theorem dX12_hall_152 : decode cX12_hall 152 = .ok (.aload_n 0, 1) := by decide +kernel
theorem dX12_hall_153 : decode cX12_hall 153 = .ok (.iconst 0, 1) := by decide +kernel
theorem dX12_hall_154 : decode cX12_hall 154 = .ok (.putfield 98, 3) := by decide +kernel
theorem dX12_hall_157 : decode cX12_hall 157 = .ok (.aload_n 0, 1) := by decide +kernel
theorem dX12_hall_158 : decode cX12_hall 158 = .ok (.iconst 0, 1) := by decide +kernel
theorem dX12_hall_159 : decode cX12_hall 159 = .ok (.putfield 63, 3) := by decide +kernel
theorem dX12_hall_162 : decode cX12_hall 162 = .ok (.aload_n 0, 1) := by decide +kernel
theorem dX12_hall_163 : decode cX12_hall 163 = .ok (.getfield 89, 3) := by decide +kernel
theorem dX12_hall_166 : decode cX12_hall 166 = .ok (.ireturn, 1) := by decide +kernel
theorem dX12_isBidder_0 : decode cX12_isBidder 0 = .ok (.iload_n 1, 1) := by decide +kernel
theorem dX12_isBidder_1 : decode cX12_isBidder 1 = .ok (.iconst 0, 1) := by decide +kernel
theorem dX12_isBidder_2 : decode cX12_isBidder 2 = .ok (.aload_n 0, 1) := by decide +kernel
theorem dX12_isBidder_3 : decode cX12_isBidder 3 = .ok (.getfield 89, 3) := by decide +kernel
theorem dX12_isBidder_6 : decode cX12_isBidder 6 = .ok (.iconst 1, 1) := by decide +kernel
theorem dX12_isBidder_7 : decode cX12_isBidder 7 = .ok (.isub, 1) := by decide +kernel
theorem dX12_isBidder_8 : decode cX12_isBidder 8 = .ok (.invokestatic 59, 3) := by decide +kernel
theorem dX12_isBidder_11 : decode cX12_isBidder 11 = .ok (.ireturn, 1) := by decide +kernel
theorem dX12_ownEnd_0 : decode cX12_ownEnd 0 = .ok (.aload_n 0, 1) := by decide +kernel
theorem dX12_ownEnd_1 : decode cX12_ownEnd 1 = .ok (.getfield 13, 3) := by decide +kernel
theorem dX12_ownEnd_4 : decode cX12_ownEnd 4 = .ok (.iload_n 1, 1) := by decide +kernel
theorem dX12_ownEnd_5 : decode cX12_ownEnd 5 = .ok (.iaload, 1) := by decide +kernel
theorem dX12_ownEnd_6 : decode cX12_ownEnd 6 = .ok (.istore_n 2, 1) := by decide +kernel
theorem dX12_ownEnd_7 : decode cX12_ownEnd 7 = .ok (.aload_n 0, 1) := by decide +kernel
theorem dX12_ownEnd_8 : decode cX12_ownEnd 8 = .ok (.getfield 7, 3) := by decide +kernel
theorem dX12_ownEnd_11 : decode cX12_ownEnd 11 = .ok (.iload_n 1, 1) := by decide +kernel
theorem dX12_ownEnd_12 : decode cX12_ownEnd 12 = .ok (.iaload, 1) := by decide +kernel
theorem dX12_ownEnd_13 : decode cX12_ownEnd 13 = .ok (.iconst 1, 1) := by decide +kernel
theorem dX12_ownEnd_14 : decode cX12_ownEnd 14 = .ok (.if_icmp .eq 13, 3) := by decide +kernel
theorem dX12_ownEnd_17 : decode cX12_ownEnd 17 = .ok (.aload_n 0, 1) := by decide +kernel
theorem dX12_ownEnd_18 : decode cX12_ownEnd 18 = .ok (.getfield 7, 3) := by decide +kernel
theorem dX12_ownEnd_21 : decode cX12_ownEnd 21 = .ok (.iload_n 1, 1) := by decide +kernel
theorem dX12_ownEnd_22 : decode cX12_ownEnd 22 = .ok (.iaload, 1) := by decide +kernel
theorem dX12_ownEnd_23 : decode cX12_ownEnd 23 = .ok (.iconst 4, 1) := by decide +kernel
theorem dX12_ownEnd_24 : decode cX12_ownEnd 24 = .ok (.if_icmp .ne 11, 3) := by decide +kernel
theorem dX12_ownEnd_27 : decode cX12_ownEnd 27 = .ok (.iconst 2, 1) := by decide +kernel
theorem dX12_ownEnd_28 : decode cX12_ownEnd 28 = .ok (.iload_n 2, 1) := by decide +kernel
theorem dX12_ownEnd_29 : decode cX12_ownEnd 29 = .ok (.imul, 1) := by decide +kernel
theorem dX12_ownEnd_30 : decode cX12_ownEnd 30 = .ok (.iconst 1, 1) := by decide +kernel
theorem dX12_ownEnd_31 : decode cX12_ownEnd 31 = .ok (.iadd, 1) := by decide +kernel
theorem dX12_ownEnd_32 : decode cX12_ownEnd 32 = .ok (.goto 26, 3) := by decide +kernel
theorem dX12_ownEnd_35 : decode cX12_ownEnd 35 = .ok (.aload_n 0, 1) := by decide +kernel
theorem dX12_ownEnd_36 : decode cX12_ownEnd 36 = .ok (.getfield 7, 3) := by decide +kernel
theorem dX12_ownEnd_39 : decode cX12_ownEnd 39 = .ok (.iload_n 1, 1) := by decide +kernel
theorem dX12_ownEnd_40 : decode cX12_ownEnd 40 = .ok (.iaload, 1) := by decide +kernel
theorem dX12_ownEnd_41 : decode cX12_ownEnd 41 = .ok (.iconst 2, 1) := by decide +kernel
theorem dX12_ownEnd_42 : decode cX12_ownEnd 42 = .ok (.if_icmp .ne 13, 3) := by decide +kernel
theorem dX12_ownEnd_45 : decode cX12_ownEnd 45 = .ok (.iload_n 2, 1) := by decide +kernel
theorem dX12_ownEnd_46 : decode cX12_ownEnd 46 = .ok (.iconst 1, 1) := by decide +kernel
theorem dX12_ownEnd_47 : decode cX12_ownEnd 47 = .ok (.iadd, 1) := by decide +kernel
theorem dX12_ownEnd_48 : decode cX12_ownEnd 48 = .ok (.iconst 2, 1) := by decide +kernel
theorem dX12_ownEnd_49 : decode cX12_ownEnd 49 = .ok (.idiv, 1) := by decide +kernel
theorem dX12_ownEnd_50 : decode cX12_ownEnd 50 = .ok (.iconst 1, 1) := by decide +kernel
theorem dX12_ownEnd_51 : decode cX12_ownEnd 51 = .ok (.iadd, 1) := by decide +kernel
theorem dX12_ownEnd_52 : decode cX12_ownEnd 52 = .ok (.goto 6, 3) := by decide +kernel
theorem dX12_ownEnd_55 : decode cX12_ownEnd 55 = .ok (.iload_n 2, 1) := by decide +kernel
theorem dX12_ownEnd_56 : decode cX12_ownEnd 56 = .ok (.iconst 1, 1) := by decide +kernel
theorem dX12_ownEnd_57 : decode cX12_ownEnd 57 = .ok (.iadd, 1) := by decide +kernel
theorem dX12_ownEnd_58 : decode cX12_ownEnd 58 = .ok (.istore_n 3, 1) := by decide +kernel
theorem dX12_ownEnd_59 : decode cX12_ownEnd 59 = .ok (.aload_n 0, 1) := by decide +kernel
theorem dX12_ownEnd_60 : decode cX12_ownEnd 60 = .ok (.getfield 22, 3) := by decide +kernel
theorem dX12_ownEnd_63 : decode cX12_ownEnd 63 = .ok (.iload_n 1, 1) := by decide +kernel
theorem dX12_ownEnd_64 : decode cX12_ownEnd 64 = .ok (.iaload, 1) := by decide +kernel
theorem dX12_ownEnd_65 : decode cX12_ownEnd 65 = .ok (.iconst (-1), 1) := by decide +kernel
theorem dX12_ownEnd_66 : decode cX12_ownEnd 66 = .ok (.if_icmp .eq 22, 3) := by decide +kernel
theorem dX12_ownEnd_69 : decode cX12_ownEnd 69 = .ok (.aload_n 0, 1) := by decide +kernel
theorem dX12_ownEnd_70 : decode cX12_ownEnd 70 = .ok (.getfield 22, 3) := by decide +kernel
theorem dX12_ownEnd_73 : decode cX12_ownEnd 73 = .ok (.iload_n 1, 1) := by decide +kernel
theorem dX12_ownEnd_74 : decode cX12_ownEnd 74 = .ok (.iaload, 1) := by decide +kernel
theorem dX12_ownEnd_75 : decode cX12_ownEnd 75 = .ok (.iload_n 3, 1) := by decide +kernel
theorem dX12_ownEnd_76 : decode cX12_ownEnd 76 = .ok (.if_icmp .ge 12, 3) := by decide +kernel
theorem dX12_ownEnd_79 : decode cX12_ownEnd 79 = .ok (.aload_n 0, 1) := by decide +kernel
theorem dX12_ownEnd_80 : decode cX12_ownEnd 80 = .ok (.getfield 22, 3) := by decide +kernel
theorem dX12_ownEnd_83 : decode cX12_ownEnd 83 = .ok (.iload_n 1, 1) := by decide +kernel
theorem dX12_ownEnd_84 : decode cX12_ownEnd 84 = .ok (.iaload, 1) := by decide +kernel
theorem dX12_ownEnd_85 : decode cX12_ownEnd 85 = .ok (.goto 4, 3) := by decide +kernel
theorem dX12_ownEnd_88 : decode cX12_ownEnd 88 = .ok (.iload_n 3, 1) := by decide +kernel
theorem dX12_ownEnd_89 : decode cX12_ownEnd 89 = .ok (.ireturn, 1) := by decide +kernel
theorem dX12_layStops_0 : decode cX12_layStops 0 = .ok (.iconst 0, 1) := by decide +kernel
theorem dX12_layStops_1 : decode cX12_layStops 1 = .ok (.istore_n 1, 1) := by decide +kernel
theorem dX12_layStops_2 : decode cX12_layStops 2 = .ok (.iload_n 1, 1) := by decide +kernel
theorem dX12_layStops_3 : decode cX12_layStops 3 = .ok (.aload_n 0, 1) := by decide +kernel
theorem dX12_layStops_4 : decode cX12_layStops 4 = .ok (.getfield 89, 3) := by decide +kernel
theorem dX12_layStops_7 : decode cX12_layStops 7 = .ok (.if_icmp .ge 20, 3) := by decide +kernel
theorem dX12_layStops_10 : decode cX12_layStops 10 = .ok (.aload_n 0, 1) := by decide +kernel
theorem dX12_layStops_11 : decode cX12_layStops 11 = .ok (.getfield 38, 3) := by decide +kernel
theorem dX12_layStops_14 : decode cX12_layStops 14 = .ok (.iload_n 1, 1) := by decide +kernel
theorem dX12_layStops_15 : decode cX12_layStops 15 = .ok (.aload_n 0, 1) := by decide +kernel
theorem dX12_layStops_16 : decode cX12_layStops 16 = .ok (.iload_n 1, 1) := by decide +kernel
theorem dX12_layStops_17 : decode cX12_layStops 17 = .ok (.invokevirtual 101, 3) := by decide +kernel
theorem dX12_layStops_20 : decode cX12_layStops 20 = .ok (.iastore, 1) := by decide +kernel
theorem dX12_layStops_21 : decode cX12_layStops 21 = .ok (.iinc 1 1, 3) := by decide +kernel
theorem dX12_layStops_24 : decode cX12_layStops 24 = .ok (.goto (-22), 3) := by decide +kernel
theorem dX12_layStops_27 : decode cX12_layStops 27 = .ok (.iconst 0, 1) := by decide +kernel
theorem dX12_layStops_28 : decode cX12_layStops 28 = .ok (.istore_n 1, 1) := by decide +kernel
theorem dX12_layStops_29 : decode cX12_layStops 29 = .ok (.iload_n 1, 1) := by decide +kernel
theorem dX12_layStops_30 : decode cX12_layStops 30 = .ok (.aload_n 0, 1) := by decide +kernel
theorem dX12_layStops_31 : decode cX12_layStops 31 = .ok (.getfield 89, 3) := by decide +kernel
theorem dX12_layStops_34 : decode cX12_layStops 34 = .ok (.aload_n 0, 1) := by decide +kernel
theorem dX12_layStops_35 : decode cX12_layStops 35 = .ok (.getfield 89, 3) := by decide +kernel
theorem dX12_layStops_38 : decode cX12_layStops 38 = .ok (.imul, 1) := by decide +kernel
theorem dX12_layStops_39 : decode cX12_layStops 39 = .ok (.aload_n 0, 1) := by decide +kernel
theorem dX12_layStops_40 : decode cX12_layStops 40 = .ok (.getfield 89, 3) := by decide +kernel
theorem dX12_layStops_43 : decode cX12_layStops 43 = .ok (.imul, 1) := by decide +kernel
theorem dX12_layStops_44 : decode cX12_layStops 44 = .ok (.if_icmp .ge 93, 3) := by decide +kernel
theorem dX12_layStops_47 : decode cX12_layStops 47 = .ok (.iload_n 1, 1) := by decide +kernel
theorem dX12_layStops_48 : decode cX12_layStops 48 = .ok (.aload_n 0, 1) := by decide +kernel
theorem dX12_layStops_49 : decode cX12_layStops 49 = .ok (.getfield 89, 3) := by decide +kernel
theorem dX12_layStops_52 : decode cX12_layStops 52 = .ok (.irem, 1) := by decide +kernel
theorem dX12_layStops_53 : decode cX12_layStops 53 = .ok (.istore_n 2, 1) := by decide +kernel
theorem dX12_layStops_54 : decode cX12_layStops 54 = .ok (.iload_n 1, 1) := by decide +kernel
theorem dX12_layStops_55 : decode cX12_layStops 55 = .ok (.aload_n 0, 1) := by decide +kernel
theorem dX12_layStops_56 : decode cX12_layStops 56 = .ok (.getfield 89, 3) := by decide +kernel
theorem dX12_layStops_59 : decode cX12_layStops 59 = .ok (.idiv, 1) := by decide +kernel
theorem dX12_layStops_60 : decode cX12_layStops 60 = .ok (.aload_n 0, 1) := by decide +kernel
theorem dX12_layStops_61 : decode cX12_layStops 61 = .ok (.getfield 89, 3) := by decide +kernel
theorem dX12_layStops_64 : decode cX12_layStops 64 = .ok (.irem, 1) := by decide +kernel
theorem dX12_layStops_65 : decode cX12_layStops 65 = .ok (.istore_n 3, 1) := by decide +kernel
theorem dX12_layStops_66 : decode cX12_layStops 66 = .ok (.aload_n 0, 1) := by decide +kernel
theorem dX12_layStops_67 : decode cX12_layStops 67 = .ok (.getfield 25, 3) := by decide +kernel
theorem dX12_layStops_70 : decode cX12_layStops 70 = .ok (.iload_n 3, 1) := by decide +kernel
theorem dX12_layStops_71 : decode cX12_layStops 71 = .ok (.iaload, 1) := by decide +kernel
theorem dX12_layStops_72 : decode cX12_layStops 72 = .ok (.iload_n 2, 1) := by decide +kernel
theorem dX12_layStops_73 : decode cX12_layStops 73 = .ok (.invokestatic 104, 3) := by decide +kernel
theorem dX12_layStops_76 : decode cX12_layStops 76 = .ok (.ifCond .eq 24, 3) := by decide +kernel
theorem dX12_layStops_79 : decode cX12_layStops 79 = .ok (.aload_n 0, 1) := by decide +kernel
theorem dX12_layStops_80 : decode cX12_layStops 80 = .ok (.getfield 38, 3) := by decide +kernel
theorem dX12_layStops_83 : decode cX12_layStops 83 = .ok (.iload_n 2, 1) := by decide +kernel
theorem dX12_layStops_84 : decode cX12_layStops 84 = .ok (.iaload, 1) := by decide +kernel
theorem dX12_layStops_85 : decode cX12_layStops 85 = .ok (.iconst 1, 1) := by decide +kernel
theorem dX12_layStops_86 : decode cX12_layStops 86 = .ok (.iadd, 1) := by decide +kernel
theorem dX12_layStops_87 : decode cX12_layStops 87 = .ok (.aload_n 0, 1) := by decide +kernel
theorem dX12_layStops_88 : decode cX12_layStops 88 = .ok (.getfield 38, 3) := by decide +kernel
theorem dX12_layStops_91 : decode cX12_layStops 91 = .ok (.iload_n 3, 1) := by decide +kernel
theorem dX12_layStops_92 : decode cX12_layStops 92 = .ok (.iaload, 1) := by decide +kernel
theorem dX12_layStops_93 : decode cX12_layStops 93 = .ok (.if_icmp .ge 7, 3) := by decide +kernel
theorem dX12_layStops_96 : decode cX12_layStops 96 = .ok (.iconst 1, 1) := by decide +kernel
theorem dX12_layStops_97 : decode cX12_layStops 97 = .ok (.goto 4, 3) := by decide +kernel
theorem dX12_layStops_100 : decode cX12_layStops 100 = .ok (.iconst 0, 1) := by decide +kernel
theorem dX12_layStops_101 : decode cX12_layStops 101 = .ok (.istore 4, 2) := by decide +kernel
theorem dX12_layStops_103 : decode cX12_layStops 103 = .ok (.aload_n 0, 1) := by decide +kernel
theorem dX12_layStops_104 : decode cX12_layStops 104 = .ok (.getfield 38, 3) := by decide +kernel
theorem dX12_layStops_107 : decode cX12_layStops 107 = .ok (.iload_n 3, 1) := by decide +kernel
theorem dX12_layStops_108 : decode cX12_layStops 108 = .ok (.iload 4, 2) := by decide +kernel
theorem dX12_layStops_110 : decode cX12_layStops 110 = .ok (.ifCond .eq 14, 3) := by decide +kernel
theorem dX12_layStops_113 : decode cX12_layStops 113 = .ok (.aload_n 0, 1) := by decide +kernel
theorem dX12_layStops_114 : decode cX12_layStops 114 = .ok (.getfield 38, 3) := by decide +kernel
theorem dX12_layStops_117 : decode cX12_layStops 117 = .ok (.iload_n 2, 1) := by decide +kernel
theorem dX12_layStops_118 : decode cX12_layStops 118 = .ok (.iaload, 1) := by decide +kernel
theorem dX12_layStops_119 : decode cX12_layStops 119 = .ok (.iconst 1, 1) := by decide +kernel
theorem dX12_layStops_120 : decode cX12_layStops 120 = .ok (.iadd, 1) := by decide +kernel
theorem dX12_layStops_121 : decode cX12_layStops 121 = .ok (.goto 9, 3) := by decide +kernel
theorem dX12_layStops_124 : decode cX12_layStops 124 = .ok (.aload_n 0, 1) := by decide +kernel
theorem dX12_layStops_125 : decode cX12_layStops 125 = .ok (.getfield 38, 3) := by decide +kernel
theorem dX12_layStops_128 : decode cX12_layStops 128 = .ok (.iload_n 3, 1) := by decide +kernel
theorem dX12_layStops_129 : decode cX12_layStops 129 = .ok (.iaload, 1) := by decide +kernel
theorem dX12_layStops_130 : decode cX12_layStops 130 = .ok (.iastore, 1) := by decide +kernel
theorem dX12_layStops_131 : decode cX12_layStops 131 = .ok (.iinc 1 1, 3) := by decide +kernel
theorem dX12_layStops_134 : decode cX12_layStops 134 = .ok (.goto (-105), 3) := by decide +kernel
theorem dX12_layStops_137 : decode cX12_layStops 137 = .ok (.return_, 1) := by decide +kernel
theorem dX12_silentFrom_0 : decode cX12_silentFrom 0 = .ok (.aload_n 0, 1) := by decide +kernel
theorem dX12_silentFrom_1 : decode cX12_silentFrom 1 = .ok (.getfield 38, 3) := by decide +kernel
theorem dX12_silentFrom_4 : decode cX12_silentFrom 4 = .ok (.iload_n 1, 1) := by decide +kernel
theorem dX12_silentFrom_5 : decode cX12_silentFrom 5 = .ok (.iaload, 1) := by decide +kernel
theorem dX12_silentFrom_6 : decode cX12_silentFrom 6 = .ok (.aload_n 0, 1) := by decide +kernel
theorem dX12_silentFrom_7 : decode cX12_silentFrom 7 = .ok (.getfield 7, 3) := by decide +kernel
theorem dX12_silentFrom_10 : decode cX12_silentFrom 10 = .ok (.iload_n 1, 1) := by decide +kernel
theorem dX12_silentFrom_11 : decode cX12_silentFrom 11 = .ok (.iaload, 1) := by decide +kernel
theorem dX12_silentFrom_12 : decode cX12_silentFrom 12 = .ok (.iconst 3, 1) := by decide +kernel
theorem dX12_silentFrom_13 : decode cX12_silentFrom 13 = .ok (.if_icmp .ne 7, 3) := by decide +kernel
theorem dX12_silentFrom_16 : decode cX12_silentFrom 16 = .ok (.iconst 2, 1) := by decide +kernel
theorem dX12_silentFrom_17 : decode cX12_silentFrom 17 = .ok (.goto 4, 3) := by decide +kernel
theorem dX12_silentFrom_20 : decode cX12_silentFrom 20 = .ok (.iconst 0, 1) := by decide +kernel
theorem dX12_silentFrom_21 : decode cX12_silentFrom 21 = .ok (.iadd, 1) := by decide +kernel
theorem dX12_silentFrom_22 : decode cX12_silentFrom 22 = .ok (.ireturn, 1) := by decide +kernel
theorem dX12_nextSilence_0 : decode cX12_nextSilence 0 = .ok (.ldc 107, 2) := by decide +kernel
theorem dX12_nextSilence_2 : decode cX12_nextSilence 2 = .ok (.istore_n 2, 1) := by decide +kernel
theorem dX12_nextSilence_3 : decode cX12_nextSilence 3 = .ok (.iconst 0, 1) := by decide +kernel
theorem dX12_nextSilence_4 : decode cX12_nextSilence 4 = .ok (.istore_n 3, 1) := by decide +kernel
theorem dX12_nextSilence_5 : decode cX12_nextSilence 5 = .ok (.iload_n 3, 1) := by decide +kernel
theorem dX12_nextSilence_6 : decode cX12_nextSilence 6 = .ok (.aload_n 0, 1) := by decide +kernel
theorem dX12_nextSilence_7 : decode cX12_nextSilence 7 = .ok (.getfield 89, 3) := by decide +kernel
theorem dX12_nextSilence_10 : decode cX12_nextSilence 10 = .ok (.if_icmp .ge 35, 3) := by decide +kernel
theorem dX12_nextSilence_13 : decode cX12_nextSilence 13 = .ok (.aload_n 0, 1) := by decide +kernel
theorem dX12_nextSilence_14 : decode cX12_nextSilence 14 = .ok (.iload_n 3, 1) := by decide +kernel
theorem dX12_nextSilence_15 : decode cX12_nextSilence 15 = .ok (.invokevirtual 108, 3) := by decide +kernel
theorem dX12_nextSilence_18 : decode cX12_nextSilence 18 = .ok (.istore 4, 2) := by decide +kernel
theorem dX12_nextSilence_20 : decode cX12_nextSilence 20 = .ok (.iload 4, 2) := by decide +kernel
theorem dX12_nextSilence_22 : decode cX12_nextSilence 22 = .ok (.iload_n 1, 1) := by decide +kernel
theorem dX12_nextSilence_23 : decode cX12_nextSilence 23 = .ok (.if_icmp .le 14, 3) := by decide +kernel
theorem dX12_nextSilence_26 : decode cX12_nextSilence 26 = .ok (.iload 4, 2) := by decide +kernel
theorem dX12_nextSilence_28 : decode cX12_nextSilence 28 = .ok (.iload_n 2, 1) := by decide +kernel
theorem dX12_nextSilence_29 : decode cX12_nextSilence 29 = .ok (.if_icmp .ge 8, 3) := by decide +kernel
theorem dX12_nextSilence_32 : decode cX12_nextSilence 32 = .ok (.iload 4, 2) := by decide +kernel
theorem dX12_nextSilence_34 : decode cX12_nextSilence 34 = .ok (.goto 4, 3) := by decide +kernel
theorem dX12_nextSilence_37 : decode cX12_nextSilence 37 = .ok (.iload_n 2, 1) := by decide +kernel
theorem dX12_nextSilence_38 : decode cX12_nextSilence 38 = .ok (.istore_n 2, 1) := by decide +kernel
theorem dX12_nextSilence_39 : decode cX12_nextSilence 39 = .ok (.iinc 3 1, 3) := by decide +kernel
theorem dX12_nextSilence_42 : decode cX12_nextSilence 42 = .ok (.goto (-37), 3) := by decide +kernel
theorem dX12_nextSilence_45 : decode cX12_nextSilence 45 = .ok (.iload_n 2, 1) := by decide +kernel
theorem dX12_nextSilence_46 : decode cX12_nextSilence 46 = .ok (.ireturn, 1) := by decide +kernel
theorem dX12_manySilent_0 : decode cX12_manySilent 0 = .ok (.iconst 0, 1) := by decide +kernel
theorem dX12_manySilent_1 : decode cX12_manySilent 1 = .ok (.istore_n 2, 1) := by decide +kernel
theorem dX12_manySilent_2 : decode cX12_manySilent 2 = .ok (.iconst 0, 1) := by decide +kernel
theorem dX12_manySilent_3 : decode cX12_manySilent 3 = .ok (.istore_n 3, 1) := by decide +kernel
theorem dX12_manySilent_4 : decode cX12_manySilent 4 = .ok (.iload_n 3, 1) := by decide +kernel
theorem dX12_manySilent_5 : decode cX12_manySilent 5 = .ok (.aload_n 0, 1) := by decide +kernel
theorem dX12_manySilent_6 : decode cX12_manySilent 6 = .ok (.getfield 89, 3) := by decide +kernel
theorem dX12_manySilent_9 : decode cX12_manySilent 9 = .ok (.if_icmp .ge 26, 3) := by decide +kernel
theorem dX12_manySilent_12 : decode cX12_manySilent 12 = .ok (.iload_n 2, 1) := by decide +kernel
theorem dX12_manySilent_13 : decode cX12_manySilent 13 = .ok (.aload_n 0, 1) := by decide +kernel
theorem dX12_manySilent_14 : decode cX12_manySilent 14 = .ok (.iload_n 3, 1) := by decide +kernel
theorem dX12_manySilent_15 : decode cX12_manySilent 15 = .ok (.invokevirtual 108, 3) := by decide +kernel
theorem dX12_manySilent_18 : decode cX12_manySilent 18 = .ok (.iload_n 1, 1) := by decide +kernel
theorem dX12_manySilent_19 : decode cX12_manySilent 19 = .ok (.if_icmp .ne 7, 3) := by decide +kernel
theorem dX12_manySilent_22 : decode cX12_manySilent 22 = .ok (.iconst 1, 1) := by decide +kernel
theorem dX12_manySilent_23 : decode cX12_manySilent 23 = .ok (.goto 4, 3) := by decide +kernel
theorem dX12_manySilent_26 : decode cX12_manySilent 26 = .ok (.iconst 0, 1) := by decide +kernel
theorem dX12_manySilent_27 : decode cX12_manySilent 27 = .ok (.iadd, 1) := by decide +kernel
theorem dX12_manySilent_28 : decode cX12_manySilent 28 = .ok (.istore_n 2, 1) := by decide +kernel
theorem dX12_manySilent_29 : decode cX12_manySilent 29 = .ok (.iinc 3 1, 3) := by decide +kernel
theorem dX12_manySilent_32 : decode cX12_manySilent 32 = .ok (.goto (-28), 3) := by decide +kernel
theorem dX12_manySilent_35 : decode cX12_manySilent 35 = .ok (.iload_n 2, 1) := by decide +kernel
theorem dX12_manySilent_36 : decode cX12_manySilent 36 = .ok (.ireturn, 1) := by decide +kernel
theorem dX12_getter_0 : decode cX12_getter 0 = .ok (.aload_n 0, 1) := by decide +kernel
theorem dX12_getter_1 : decode cX12_getter 1 = .ok (.iconst 0, 1) := by decide +kernel
theorem dX12_getter_2 : decode cX12_getter 2 = .ok (.invokevirtual 111, 3) := by decide +kernel
theorem dX12_getter_5 : decode cX12_getter 5 = .ok (.istore_n 1, 1) := by decide +kernel
theorem dX12_getter_6 : decode cX12_getter 6 = .ok (.aload_n 0, 1) := by decide +kernel
theorem dX12_getter_7 : decode cX12_getter 7 = .ok (.iload_n 1, 1) := by decide +kernel
theorem dX12_getter_8 : decode cX12_getter 8 = .ok (.invokevirtual 111, 3) := by decide +kernel
theorem dX12_getter_11 : decode cX12_getter 11 = .ok (.istore_n 2, 1) := by decide +kernel
theorem dX12_getter_12 : decode cX12_getter 12 = .ok (.aload_n 0, 1) := by decide +kernel
theorem dX12_getter_13 : decode cX12_getter 13 = .ok (.iload_n 1, 1) := by decide +kernel
theorem dX12_getter_14 : decode cX12_getter 14 = .ok (.invokevirtual 114, 3) := by decide +kernel
theorem dX12_getter_17 : decode cX12_getter 17 = .ok (.iconst 1, 1) := by decide +kernel
theorem dX12_getter_18 : decode cX12_getter 18 = .ok (.if_icmp .ne 12, 3) := by decide +kernel
theorem dX12_getter_21 : decode cX12_getter 21 = .ok (.aload_n 0, 1) := by decide +kernel
theorem dX12_getter_22 : decode cX12_getter 22 = .ok (.iload_n 2, 1) := by decide +kernel
theorem dX12_getter_23 : decode cX12_getter 23 = .ok (.invokevirtual 114, 3) := by decide +kernel
theorem dX12_getter_26 : decode cX12_getter 26 = .ok (.iconst 1, 1) := by decide +kernel
theorem dX12_getter_27 : decode cX12_getter 27 = .ok (.if_icmp .eq 5, 3) := by decide +kernel
theorem dX12_getter_30 : decode cX12_getter 30 = .ok (.iconst (-1), 1) := by decide +kernel
theorem dX12_getter_31 : decode cX12_getter 31 = .ok (.ireturn, 1) := by decide +kernel
theorem dX12_getter_32 : decode cX12_getter 32 = .ok (.iconst (-1), 1) := by decide +kernel
theorem dX12_getter_33 : decode cX12_getter 33 = .ok (.istore_n 3, 1) := by decide +kernel
theorem dX12_getter_34 : decode cX12_getter 34 = .ok (.iconst 0, 1) := by decide +kernel
theorem dX12_getter_35 : decode cX12_getter 35 = .ok (.istore 4, 2) := by decide +kernel
theorem dX12_getter_37 : decode cX12_getter 37 = .ok (.iload 4, 2) := by decide +kernel
theorem dX12_getter_39 : decode cX12_getter 39 = .ok (.aload_n 0, 1) := by decide +kernel
theorem dX12_getter_40 : decode cX12_getter 40 = .ok (.getfield 89, 3) := by decide +kernel
theorem dX12_getter_43 : decode cX12_getter 43 = .ok (.if_icmp .ge 26, 3) := by decide +kernel
theorem dX12_getter_46 : decode cX12_getter 46 = .ok (.aload_n 0, 1) := by decide +kernel
theorem dX12_getter_47 : decode cX12_getter 47 = .ok (.iload 4, 2) := by decide +kernel
theorem dX12_getter_49 : decode cX12_getter 49 = .ok (.invokevirtual 108, 3) := by decide +kernel
theorem dX12_getter_52 : decode cX12_getter 52 = .ok (.iload_n 2, 1) := by decide +kernel
theorem dX12_getter_53 : decode cX12_getter 53 = .ok (.if_icmp .ne 8, 3) := by decide +kernel
theorem dX12_getter_56 : decode cX12_getter 56 = .ok (.iload 4, 2) := by decide +kernel
theorem dX12_getter_58 : decode cX12_getter 58 = .ok (.goto 4, 3) := by decide +kernel
theorem dX12_getter_61 : decode cX12_getter 61 = .ok (.iload_n 3, 1) := by decide +kernel
theorem dX12_getter_62 : decode cX12_getter 62 = .ok (.istore_n 3, 1) := by decide +kernel
theorem dX12_getter_63 : decode cX12_getter 63 = .ok (.iinc 4 1, 3) := by decide +kernel
theorem dX12_getter_66 : decode cX12_getter 66 = .ok (.goto (-29), 3) := by decide +kernel
theorem dX12_getter_69 : decode cX12_getter 69 = .ok (.iload_n 3, 1) := by decide +kernel
theorem dX12_getter_70 : decode cX12_getter 70 = .ok (.ireturn, 1) := by decide +kernel
theorem dX12_priceOf_0 : decode cX12_priceOf 0 = .ok (.bipush 10, 2) := by decide +kernel
theorem dX12_priceOf_2 : decode cX12_priceOf 2 = .ok (.aload_n 0, 1) := by decide +kernel
theorem dX12_priceOf_3 : decode cX12_priceOf 3 = .ok (.getfield 16, 3) := by decide +kernel
theorem dX12_priceOf_6 : decode cX12_priceOf 6 = .ok (.iload_n 1, 1) := by decide +kernel
theorem dX12_priceOf_7 : decode cX12_priceOf 7 = .ok (.iaload, 1) := by decide +kernel
theorem dX12_priceOf_8 : decode cX12_priceOf 8 = .ok (.imul, 1) := by decide +kernel
theorem dX12_priceOf_9 : decode cX12_priceOf 9 = .ok (.aload_n 0, 1) := by decide +kernel
theorem dX12_priceOf_10 : decode cX12_priceOf 10 = .ok (.getfield 7, 3) := by decide +kernel
theorem dX12_priceOf_13 : decode cX12_priceOf 13 = .ok (.iload_n 1, 1) := by decide +kernel
theorem dX12_priceOf_14 : decode cX12_priceOf 14 = .ok (.iaload, 1) := by decide +kernel
theorem dX12_priceOf_15 : decode cX12_priceOf 15 = .ok (.iconst 4, 1) := by decide +kernel
theorem dX12_priceOf_16 : decode cX12_priceOf 16 = .ok (.if_icmp .ne 7, 3) := by decide +kernel
theorem dX12_priceOf_19 : decode cX12_priceOf 19 = .ok (.iconst 0, 1) := by decide +kernel
theorem dX12_priceOf_20 : decode cX12_priceOf 20 = .ok (.goto 16, 3) := by decide +kernel
theorem dX12_priceOf_23 : decode cX12_priceOf 23 = .ok (.aload_n 0, 1) := by decide +kernel
theorem dX12_priceOf_24 : decode cX12_priceOf 24 = .ok (.getfield 92, 3) := by decide +kernel
theorem dX12_priceOf_27 : decode cX12_priceOf 27 = .ok (.aload_n 0, 1) := by decide +kernel
theorem dX12_priceOf_28 : decode cX12_priceOf 28 = .ok (.getfield 38, 3) := by decide +kernel
theorem dX12_priceOf_31 : decode cX12_priceOf 31 = .ok (.iload_n 1, 1) := by decide +kernel
theorem dX12_priceOf_32 : decode cX12_priceOf 32 = .ok (.iaload, 1) := by decide +kernel
theorem dX12_priceOf_33 : decode cX12_priceOf 33 = .ok (.iconst 1, 1) := by decide +kernel
theorem dX12_priceOf_34 : decode cX12_priceOf 34 = .ok (.isub, 1) := by decide +kernel
theorem dX12_priceOf_35 : decode cX12_priceOf 35 = .ok (.imul, 1) := by decide +kernel
theorem dX12_priceOf_36 : decode cX12_priceOf 36 = .ok (.isub, 1) := by decide +kernel
theorem dX12_priceOf_37 : decode cX12_priceOf 37 = .ok (.istore_n 2, 1) := by decide +kernel
theorem dX12_priceOf_38 : decode cX12_priceOf 38 = .ok (.iload_n 2, 1) := by decide +kernel
theorem dX12_priceOf_39 : decode cX12_priceOf 39 = .ok (.ifCond .ge 7, 3) := by decide +kernel
theorem dX12_priceOf_42 : decode cX12_priceOf 42 = .ok (.iconst 0, 1) := by decide +kernel
theorem dX12_priceOf_43 : decode cX12_priceOf 43 = .ok (.goto 4, 3) := by decide +kernel
theorem dX12_priceOf_46 : decode cX12_priceOf 46 = .ok (.iload_n 2, 1) := by decide +kernel
theorem dX12_priceOf_47 : decode cX12_priceOf 47 = .ok (.ireturn, 1) := by decide +kernel
theorem dX12_gainOf_0 : decode cX12_gainOf 0 = .ok (.aload_n 0, 1) := by decide +kernel
theorem dX12_gainOf_1 : decode cX12_gainOf 1 = .ok (.invokevirtual 117, 3) := by decide +kernel
theorem dX12_gainOf_4 : decode cX12_gainOf 4 = .ok (.iload_n 1, 1) := by decide +kernel
theorem dX12_gainOf_5 : decode cX12_gainOf 5 = .ok (.if_icmp .ne 21, 3) := by decide +kernel
theorem dX12_gainOf_8 : decode cX12_gainOf 8 = .ok (.bipush 10, 2) := by decide +kernel
theorem dX12_gainOf_10 : decode cX12_gainOf 10 = .ok (.aload_n 0, 1) := by decide +kernel
theorem dX12_gainOf_11 : decode cX12_gainOf 11 = .ok (.getfield 19, 3) := by decide +kernel
theorem dX12_gainOf_14 : decode cX12_gainOf 14 = .ok (.iload_n 1, 1) := by decide +kernel
theorem dX12_gainOf_15 : decode cX12_gainOf 15 = .ok (.iaload, 1) := by decide +kernel
theorem dX12_gainOf_16 : decode cX12_gainOf 16 = .ok (.imul, 1) := by decide +kernel
theorem dX12_gainOf_17 : decode cX12_gainOf 17 = .ok (.aload_n 0, 1) := by decide +kernel
theorem dX12_gainOf_18 : decode cX12_gainOf 18 = .ok (.iload_n 1, 1) := by decide +kernel
theorem dX12_gainOf_19 : decode cX12_gainOf 19 = .ok (.invokevirtual 120, 3) := by decide +kernel
theorem dX12_gainOf_22 : decode cX12_gainOf 22 = .ok (.isub, 1) := by decide +kernel
theorem dX12_gainOf_23 : decode cX12_gainOf 23 = .ok (.goto 4, 3) := by decide +kernel
theorem dX12_gainOf_26 : decode cX12_gainOf 26 = .ok (.iconst 0, 1) := by decide +kernel
theorem dX12_gainOf_27 : decode cX12_gainOf 27 = .ok (.ireturn, 1) := by decide +kernel
theorem dX12_bidderNow_0 : decode cX12_bidderNow 0 = .ok (.aload_n 0, 1) := by decide +kernel
theorem dX12_bidderNow_1 : decode cX12_bidderNow 1 = .ok (.invokevirtual 123, 3) := by decide +kernel
theorem dX12_bidderNow_4 : decode cX12_bidderNow 4 = .ok (.iload_n 2, 1) := by decide +kernel
theorem dX12_bidderNow_5 : decode cX12_bidderNow 5 = .ok (.tableswitch 111 0 8 #[51, 58, 65, 72, 79, 86, 93, 99, 105], 51) := by decide +kernel
theorem dX12_bidderNow_56 : decode cX12_bidderNow 56 = .ok (.aload_n 0, 1) := by decide +kernel
theorem dX12_bidderNow_57 : decode cX12_bidderNow 57 = .ok (.getfield 7, 3) := by decide +kernel
theorem dX12_bidderNow_60 : decode cX12_bidderNow 60 = .ok (.iload_n 1, 1) := by decide +kernel
theorem dX12_bidderNow_61 : decode cX12_bidderNow 61 = .ok (.iaload, 1) := by decide +kernel
theorem dX12_bidderNow_62 : decode cX12_bidderNow 62 = .ok (.ireturn, 1) := by decide +kernel
theorem dX12_bidderNow_63 : decode cX12_bidderNow 63 = .ok (.aload_n 0, 1) := by decide +kernel
theorem dX12_bidderNow_64 : decode cX12_bidderNow 64 = .ok (.getfield 13, 3) := by decide +kernel
theorem dX12_bidderNow_67 : decode cX12_bidderNow 67 = .ok (.iload_n 1, 1) := by decide +kernel
theorem dX12_bidderNow_68 : decode cX12_bidderNow 68 = .ok (.iaload, 1) := by decide +kernel
theorem dX12_bidderNow_69 : decode cX12_bidderNow 69 = .ok (.ireturn, 1) := by decide +kernel
theorem dX12_bidderNow_70 : decode cX12_bidderNow 70 = .ok (.aload_n 0, 1) := by decide +kernel
theorem dX12_bidderNow_71 : decode cX12_bidderNow 71 = .ok (.getfield 16, 3) := by decide +kernel
theorem dX12_bidderNow_74 : decode cX12_bidderNow 74 = .ok (.iload_n 1, 1) := by decide +kernel
theorem dX12_bidderNow_75 : decode cX12_bidderNow 75 = .ok (.iaload, 1) := by decide +kernel
theorem dX12_bidderNow_76 : decode cX12_bidderNow 76 = .ok (.ireturn, 1) := by decide +kernel
theorem dX12_bidderNow_77 : decode cX12_bidderNow 77 = .ok (.aload_n 0, 1) := by decide +kernel
theorem dX12_bidderNow_78 : decode cX12_bidderNow 78 = .ok (.getfield 19, 3) := by decide +kernel
theorem dX12_bidderNow_81 : decode cX12_bidderNow 81 = .ok (.iload_n 1, 1) := by decide +kernel
theorem dX12_bidderNow_82 : decode cX12_bidderNow 82 = .ok (.iaload, 1) := by decide +kernel
theorem dX12_bidderNow_83 : decode cX12_bidderNow 83 = .ok (.ireturn, 1) := by decide +kernel
theorem dX12_bidderNow_84 : decode cX12_bidderNow 84 = .ok (.aload_n 0, 1) := by decide +kernel
theorem dX12_bidderNow_85 : decode cX12_bidderNow 85 = .ok (.getfield 22, 3) := by decide +kernel
theorem dX12_bidderNow_88 : decode cX12_bidderNow 88 = .ok (.iload_n 1, 1) := by decide +kernel
theorem dX12_bidderNow_89 : decode cX12_bidderNow 89 = .ok (.iaload, 1) := by decide +kernel
theorem dX12_bidderNow_90 : decode cX12_bidderNow 90 = .ok (.ireturn, 1) := by decide +kernel
theorem dX12_bidderNow_91 : decode cX12_bidderNow 91 = .ok (.aload_n 0, 1) := by decide +kernel
theorem dX12_bidderNow_92 : decode cX12_bidderNow 92 = .ok (.getfield 38, 3) := by decide +kernel
theorem dX12_bidderNow_95 : decode cX12_bidderNow 95 = .ok (.iload_n 1, 1) := by decide +kernel
theorem dX12_bidderNow_96 : decode cX12_bidderNow 96 = .ok (.iaload, 1) := by decide +kernel
theorem dX12_bidderNow_97 : decode cX12_bidderNow 97 = .ok (.ireturn, 1) := by decide +kernel
theorem dX12_bidderNow_98 : decode cX12_bidderNow 98 = .ok (.aload_n 0, 1) := by decide +kernel
theorem dX12_bidderNow_99 : decode cX12_bidderNow 99 = .ok (.iload_n 1, 1) := by decide +kernel
theorem dX12_bidderNow_100 : decode cX12_bidderNow 100 = .ok (.invokevirtual 108, 3) := by decide +kernel
theorem dX12_bidderNow_103 : decode cX12_bidderNow 103 = .ok (.ireturn, 1) := by decide +kernel
theorem dX12_bidderNow_104 : decode cX12_bidderNow 104 = .ok (.aload_n 0, 1) := by decide +kernel
theorem dX12_bidderNow_105 : decode cX12_bidderNow 105 = .ok (.iload_n 1, 1) := by decide +kernel
theorem dX12_bidderNow_106 : decode cX12_bidderNow 106 = .ok (.invokevirtual 120, 3) := by decide +kernel
theorem dX12_bidderNow_109 : decode cX12_bidderNow 109 = .ok (.ireturn, 1) := by decide +kernel
theorem dX12_bidderNow_110 : decode cX12_bidderNow 110 = .ok (.aload_n 0, 1) := by decide +kernel
theorem dX12_bidderNow_111 : decode cX12_bidderNow 111 = .ok (.iload_n 1, 1) := by decide +kernel
theorem dX12_bidderNow_112 : decode cX12_bidderNow 112 = .ok (.invokevirtual 126, 3) := by decide +kernel
theorem dX12_bidderNow_115 : decode cX12_bidderNow 115 = .ok (.ireturn, 1) := by decide +kernel
theorem dX12_bidderNow_116 : decode cX12_bidderNow 116 = .ok (.aload_n 0, 1) := by decide +kernel
theorem dX12_bidderNow_117 : decode cX12_bidderNow 117 = .ok (.getfield 25, 3) := by decide +kernel
theorem dX12_bidderNow_120 : decode cX12_bidderNow 120 = .ok (.iload_n 1, 1) := by decide +kernel
theorem dX12_bidderNow_121 : decode cX12_bidderNow 121 = .ok (.iaload, 1) := by decide +kernel
theorem dX12_bidderNow_122 : decode cX12_bidderNow 122 = .ok (.ireturn, 1) := by decide +kernel
theorem dX12_about_0 : decode cX12_about 0 = .ok (.aload_n 0, 1) := by decide +kernel
theorem dX12_about_1 : decode cX12_about 1 = .ok (.iload_n 1, 1) := by decide +kernel
theorem dX12_about_2 : decode cX12_about 2 = .ok (.invokevirtual 129, 3) := by decide +kernel
theorem dX12_about_5 : decode cX12_about 5 = .ok (.ifCond .ne 8, 3) := by decide +kernel
theorem dX12_about_8 : decode cX12_about 8 = .ok (.bipush (-101), 2) := by decide +kernel
theorem dX12_about_10 : decode cX12_about 10 = .ok (.goto 24, 3) := by decide +kernel
theorem dX12_about_13 : decode cX12_about 13 = .ok (.iload_n 2, 1) := by decide +kernel
theorem dX12_about_14 : decode cX12_about 14 = .ok (.iconst 0, 1) := by decide +kernel
theorem dX12_about_15 : decode cX12_about 15 = .ok (.bipush 9, 2) := by decide +kernel
theorem dX12_about_17 : decode cX12_about 17 = .ok (.invokestatic 59, 3) := by decide +kernel
theorem dX12_about_20 : decode cX12_about 20 = .ok (.ifCond .eq 12, 3) := by decide +kernel
theorem dX12_about_23 : decode cX12_about 23 = .ok (.aload_n 0, 1) := by decide +kernel
theorem dX12_about_24 : decode cX12_about 24 = .ok (.iload_n 1, 1) := by decide +kernel
theorem dX12_about_25 : decode cX12_about 25 = .ok (.iload_n 2, 1) := by decide +kernel
theorem dX12_about_26 : decode cX12_about 26 = .ok (.invokevirtual 133, 3) := by decide +kernel
theorem dX12_about_29 : decode cX12_about 29 = .ok (.goto 5, 3) := by decide +kernel
theorem dX12_about_32 : decode cX12_about 32 = .ok (.bipush (-102), 2) := by decide +kernel
theorem dX12_about_34 : decode cX12_about 34 = .ok (.ireturn, 1) := by decide +kernel
theorem dX12_as_0 : decode cX12_as 0 = .ok (.aload_n 0, 1) := by decide +kernel
theorem dX12_as_1 : decode cX12_as 1 = .ok (.iload_n 1, 1) := by decide +kernel
theorem dX12_as_2 : decode cX12_as 2 = .ok (.invokevirtual 129, 3) := by decide +kernel
theorem dX12_as_5 : decode cX12_as 5 = .ok (.ifCond .ne 6, 3) := by decide +kernel
theorem dX12_as_8 : decode cX12_as 8 = .ok (.bipush (-101), 2) := by decide +kernel
theorem dX12_as_10 : decode cX12_as 10 = .ok (.ireturn, 1) := by decide +kernel
theorem dX12_as_11 : decode cX12_as 11 = .ok (.iload_n 2, 1) := by decide +kernel
theorem dX12_as_12 : decode cX12_as 12 = .ok (.iconst 0, 1) := by decide +kernel
theorem dX12_as_13 : decode cX12_as 13 = .ok (.iconst 4, 1) := by decide +kernel
theorem dX12_as_14 : decode cX12_as 14 = .ok (.invokestatic 59, 3) := by decide +kernel
theorem dX12_as_17 : decode cX12_as 17 = .ok (.ifCond .ne 6, 3) := by decide +kernel
theorem dX12_as_20 : decode cX12_as 20 = .ok (.bipush (-102), 2) := by decide +kernel
theorem dX12_as_22 : decode cX12_as 22 = .ok (.ireturn, 1) := by decide +kernel
theorem dX12_as_23 : decode cX12_as 23 = .ok (.aload_n 0, 1) := by decide +kernel
theorem dX12_as_24 : decode cX12_as 24 = .ok (.getfield 7, 3) := by decide +kernel
theorem dX12_as_27 : decode cX12_as 27 = .ok (.iload_n 1, 1) := by decide +kernel
theorem dX12_as_28 : decode cX12_as 28 = .ok (.iaload, 1) := by decide +kernel
theorem dX12_as_29 : decode cX12_as 29 = .ok (.istore_n 3, 1) := by decide +kernel
theorem dX12_as_30 : decode cX12_as 30 = .ok (.iload_n 2, 1) := by decide +kernel
theorem dX12_as_31 : decode cX12_as 31 = .ok (.ifCond .eq 18, 3) := by decide +kernel
theorem dX12_as_34 : decode cX12_as 34 = .ok (.iload_n 3, 1) := by decide +kernel
theorem dX12_as_35 : decode cX12_as 35 = .ok (.iload_n 2, 1) := by decide +kernel
theorem dX12_as_36 : decode cX12_as 36 = .ok (.if_icmp .eq 13, 3) := by decide +kernel
theorem dX12_as_39 : decode cX12_as 39 = .ok (.iload_n 2, 1) := by decide +kernel
theorem dX12_as_40 : decode cX12_as 40 = .ok (.iconst 1, 1) := by decide +kernel
theorem dX12_as_41 : decode cX12_as 41 = .ok (.if_icmp .ne 12, 3) := by decide +kernel
theorem dX12_as_44 : decode cX12_as 44 = .ok (.iload_n 3, 1) := by decide +kernel
theorem dX12_as_45 : decode cX12_as 45 = .ok (.iconst 4, 1) := by decide +kernel
theorem dX12_as_46 : decode cX12_as 46 = .ok (.if_icmp .ne 7, 3) := by decide +kernel
theorem dX12_as_49 : decode cX12_as 49 = .ok (.iload_n 1, 1) := by decide +kernel
theorem dX12_as_50 : decode cX12_as 50 = .ok (.goto 4, 3) := by decide +kernel
theorem dX12_as_53 : decode cX12_as 53 = .ok (.iconst (-1), 1) := by decide +kernel
theorem dX12_as_54 : decode cX12_as 54 = .ok (.ireturn, 1) := by decide +kernel
theorem dX12_choose_0 : decode cX12_choose 0 = .ok (.aload_n 0, 1) := by decide +kernel
theorem dX12_choose_1 : decode cX12_choose 1 = .ok (.iload_n 1, 1) := by decide +kernel
theorem dX12_choose_2 : decode cX12_choose 2 = .ok (.invokevirtual 129, 3) := by decide +kernel
theorem dX12_choose_5 : decode cX12_choose 5 = .ok (.ifCond .ne 6, 3) := by decide +kernel
theorem dX12_choose_8 : decode cX12_choose 8 = .ok (.bipush (-101), 2) := by decide +kernel
theorem dX12_choose_10 : decode cX12_choose 10 = .ok (.ireturn, 1) := by decide +kernel
theorem dX12_choose_11 : decode cX12_choose 11 = .ok (.iload_n 2, 1) := by decide +kernel
theorem dX12_choose_12 : decode cX12_choose 12 = .ok (.iconst (-1), 1) := by decide +kernel
theorem dX12_choose_13 : decode cX12_choose 13 = .ok (.if_icmp .eq 16, 3) := by decide +kernel
theorem dX12_choose_16 : decode cX12_choose 16 = .ok (.iload_n 2, 1) := by decide +kernel
theorem dX12_choose_17 : decode cX12_choose 17 = .ok (.iconst 1, 1) := by decide +kernel
theorem dX12_choose_18 : decode cX12_choose 18 = .ok (.bipush 30, 2) := by decide +kernel
theorem dX12_choose_20 : decode cX12_choose 20 = .ok (.invokestatic 59, 3) := by decide +kernel
theorem dX12_choose_23 : decode cX12_choose 23 = .ok (.ifCond .ne 6, 3) := by decide +kernel
theorem dX12_choose_26 : decode cX12_choose 26 = .ok (.bipush (-102), 2) := by decide +kernel
theorem dX12_choose_28 : decode cX12_choose 28 = .ok (.ireturn, 1) := by decide +kernel
theorem dX12_choose_29 : decode cX12_choose 29 = .ok (.aload_n 0, 1) := by decide +kernel
theorem dX12_choose_30 : decode cX12_choose 30 = .ok (.getfield 22, 3) := by decide +kernel
theorem dX12_choose_33 : decode cX12_choose 33 = .ok (.iload_n 1, 1) := by decide +kernel
theorem dX12_choose_34 : decode cX12_choose 34 = .ok (.iaload, 1) := by decide +kernel
theorem dX12_choose_35 : decode cX12_choose 35 = .ok (.istore_n 3, 1) := by decide +kernel
theorem dX12_choose_36 : decode cX12_choose 36 = .ok (.aload_n 0, 1) := by decide +kernel
theorem dX12_choose_37 : decode cX12_choose 37 = .ok (.getfield 22, 3) := by decide +kernel
theorem dX12_choose_40 : decode cX12_choose 40 = .ok (.iload_n 1, 1) := by decide +kernel
theorem dX12_choose_41 : decode cX12_choose 41 = .ok (.iload_n 2, 1) := by decide +kernel
theorem dX12_choose_42 : decode cX12_choose 42 = .ok (.iastore, 1) := by decide +kernel
theorem dX12_choose_43 : decode cX12_choose 43 = .ok (.iload_n 3, 1) := by decide +kernel
theorem dX12_choose_44 : decode cX12_choose 44 = .ok (.ireturn, 1) := by decide +kernel
theorem dX12_wind_0 : decode cX12_wind 0 = .ok (.aload_n 0, 1) := by decide +kernel
theorem dX12_wind_1 : decode cX12_wind 1 = .ok (.iload_n 1, 1) := by decide +kernel
theorem dX12_wind_2 : decode cX12_wind 2 = .ok (.invokevirtual 129, 3) := by decide +kernel
theorem dX12_wind_5 : decode cX12_wind 5 = .ok (.ifCond .ne 6, 3) := by decide +kernel
theorem dX12_wind_8 : decode cX12_wind 8 = .ok (.bipush (-101), 2) := by decide +kernel
theorem dX12_wind_10 : decode cX12_wind 10 = .ok (.ireturn, 1) := by decide +kernel
theorem dX12_wind_11 : decode cX12_wind 11 = .ok (.iload_n 2, 1) := by decide +kernel
theorem dX12_wind_12 : decode cX12_wind 12 = .ok (.iconst 1, 1) := by decide +kernel
theorem dX12_wind_13 : decode cX12_wind 13 = .ok (.bipush 9, 2) := by decide +kernel
theorem dX12_wind_15 : decode cX12_wind 15 = .ok (.invokestatic 59, 3) := by decide +kernel
theorem dX12_wind_18 : decode cX12_wind 18 = .ok (.ifCond .ne 6, 3) := by decide +kernel
theorem dX12_wind_21 : decode cX12_wind 21 = .ok (.bipush (-102), 2) := by decide +kernel
theorem dX12_wind_23 : decode cX12_wind 23 = .ok (.ireturn, 1) := by decide +kernel
theorem dX12_wind_24 : decode cX12_wind 24 = .ok (.aload_n 0, 1) := by decide +kernel
theorem dX12_wind_25 : decode cX12_wind 25 = .ok (.getfield 13, 3) := by decide +kernel
theorem dX12_wind_28 : decode cX12_wind 28 = .ok (.iload_n 1, 1) := by decide +kernel
theorem dX12_wind_29 : decode cX12_wind 29 = .ok (.iaload, 1) := by decide +kernel
theorem dX12_wind_30 : decode cX12_wind 30 = .ok (.istore_n 3, 1) := by decide +kernel
theorem dX12_wind_31 : decode cX12_wind 31 = .ok (.aload_n 0, 1) := by decide +kernel
theorem dX12_wind_32 : decode cX12_wind 32 = .ok (.getfield 13, 3) := by decide +kernel
theorem dX12_wind_35 : decode cX12_wind 35 = .ok (.iload_n 1, 1) := by decide +kernel
theorem dX12_wind_36 : decode cX12_wind 36 = .ok (.iload_n 2, 1) := by decide +kernel
theorem dX12_wind_37 : decode cX12_wind 37 = .ok (.iastore, 1) := by decide +kernel
theorem dX12_wind_38 : decode cX12_wind 38 = .ok (.iload_n 3, 1) := by decide +kernel
theorem dX12_wind_39 : decode cX12_wind 39 = .ok (.ireturn, 1) := by decide +kernel
theorem dX12_touch_0 : decode cX12_touch 0 = .ok (.aload_n 0, 1) := by decide +kernel
theorem dX12_touch_1 : decode cX12_touch 1 = .ok (.iload_n 1, 1) := by decide +kernel
theorem dX12_touch_2 : decode cX12_touch 2 = .ok (.invokevirtual 129, 3) := by decide +kernel
theorem dX12_touch_5 : decode cX12_touch 5 = .ok (.ifCond .eq 16, 3) := by decide +kernel
theorem dX12_touch_8 : decode cX12_touch 8 = .ok (.aload_n 0, 1) := by decide +kernel
theorem dX12_touch_9 : decode cX12_touch 9 = .ok (.iload_n 2, 1) := by decide +kernel
theorem dX12_touch_10 : decode cX12_touch 10 = .ok (.invokevirtual 129, 3) := by decide +kernel
theorem dX12_touch_13 : decode cX12_touch 13 = .ok (.ifCond .eq 8, 3) := by decide +kernel
theorem dX12_touch_16 : decode cX12_touch 16 = .ok (.iload_n 1, 1) := by decide +kernel
theorem dX12_touch_17 : decode cX12_touch 17 = .ok (.iload_n 2, 1) := by decide +kernel
theorem dX12_touch_18 : decode cX12_touch 18 = .ok (.if_icmp .ne 6, 3) := by decide +kernel
theorem dX12_touch_21 : decode cX12_touch 21 = .ok (.bipush (-101), 2) := by decide +kernel
theorem dX12_touch_23 : decode cX12_touch 23 = .ok (.ireturn, 1) := by decide +kernel
theorem dX12_touch_24 : decode cX12_touch 24 = .ok (.aload_n 0, 1) := by decide +kernel
theorem dX12_touch_25 : decode cX12_touch 25 = .ok (.getfield 25, 3) := by decide +kernel
theorem dX12_touch_28 : decode cX12_touch 28 = .ok (.iload_n 2, 1) := by decide +kernel
theorem dX12_touch_29 : decode cX12_touch 29 = .ok (.iaload, 1) := by decide +kernel
theorem dX12_touch_30 : decode cX12_touch 30 = .ok (.iload_n 1, 1) := by decide +kernel
theorem dX12_touch_31 : decode cX12_touch 31 = .ok (.ishr, 1) := by decide +kernel
theorem dX12_touch_32 : decode cX12_touch 32 = .ok (.iconst 1, 1) := by decide +kernel
theorem dX12_touch_33 : decode cX12_touch 33 = .ok (.iand, 1) := by decide +kernel
theorem dX12_touch_34 : decode cX12_touch 34 = .ok (.istore 4, 2) := by decide +kernel
theorem dX12_touch_36 : decode cX12_touch 36 = .ok (.aload_n 0, 1) := by decide +kernel
theorem dX12_touch_37 : decode cX12_touch 37 = .ok (.getfield 25, 3) := by decide +kernel
theorem dX12_touch_40 : decode cX12_touch 40 = .ok (.iload_n 2, 1) := by decide +kernel
theorem dX12_touch_41 : decode cX12_touch 41 = .ok (.iload_n 3, 1) := by decide +kernel
theorem dX12_touch_42 : decode cX12_touch 42 = .ok (.ifCond .eq 16, 3) := by decide +kernel
theorem dX12_touch_45 : decode cX12_touch 45 = .ok (.aload_n 0, 1) := by decide +kernel
theorem dX12_touch_46 : decode cX12_touch 46 = .ok (.getfield 25, 3) := by decide +kernel
theorem dX12_touch_49 : decode cX12_touch 49 = .ok (.iload_n 2, 1) := by decide +kernel
theorem dX12_touch_50 : decode cX12_touch 50 = .ok (.iaload, 1) := by decide +kernel
theorem dX12_touch_51 : decode cX12_touch 51 = .ok (.iconst 1, 1) := by decide +kernel
theorem dX12_touch_52 : decode cX12_touch 52 = .ok (.iload_n 1, 1) := by decide +kernel
theorem dX12_touch_53 : decode cX12_touch 53 = .ok (.ishl, 1) := by decide +kernel
theorem dX12_touch_54 : decode cX12_touch 54 = .ok (.ior, 1) := by decide +kernel
theorem dX12_touch_55 : decode cX12_touch 55 = .ok (.goto 15, 3) := by decide +kernel
theorem dX12_touch_58 : decode cX12_touch 58 = .ok (.aload_n 0, 1) := by decide +kernel
theorem dX12_touch_59 : decode cX12_touch 59 = .ok (.getfield 25, 3) := by decide +kernel
theorem dX12_touch_62 : decode cX12_touch 62 = .ok (.iload_n 2, 1) := by decide +kernel
theorem dX12_touch_63 : decode cX12_touch 63 = .ok (.iaload, 1) := by decide +kernel
theorem dX12_touch_64 : decode cX12_touch 64 = .ok (.iconst 1, 1) := by decide +kernel
theorem dX12_touch_65 : decode cX12_touch 65 = .ok (.iload_n 1, 1) := by decide +kernel
theorem dX12_touch_66 : decode cX12_touch 66 = .ok (.ishl, 1) := by decide +kernel
theorem dX12_touch_67 : decode cX12_touch 67 = .ok (.iconst (-1), 1) := by decide +kernel
theorem dX12_touch_68 : decode cX12_touch 68 = .ok (.ixor, 1) := by decide +kernel
theorem dX12_touch_69 : decode cX12_touch 69 = .ok (.iand, 1) := by decide +kernel
theorem dX12_touch_70 : decode cX12_touch 70 = .ok (.iastore, 1) := by decide +kernel
theorem dX12_touch_71 : decode cX12_touch 71 = .ok (.iload 4, 2) := by decide +kernel
theorem dX12_touch_73 : decode cX12_touch 73 = .ok (.ireturn, 1) := by decide +kernel
theorem dX12_sayingNow_0 : decode cX12_sayingNow 0 = .ok (.aload_n 0, 1) := by decide +kernel
theorem dX12_sayingNow_1 : decode cX12_sayingNow 1 = .ok (.invokevirtual 123, 3) := by decide +kernel
theorem dX12_sayingNow_4 : decode cX12_sayingNow 4 = .ok (.iconst 0, 1) := by decide +kernel
theorem dX12_sayingNow_5 : decode cX12_sayingNow 5 = .ok (.istore_n 2, 1) := by decide +kernel
theorem dX12_sayingNow_6 : decode cX12_sayingNow 6 = .ok (.iconst 0, 1) := by decide +kernel
theorem dX12_sayingNow_7 : decode cX12_sayingNow 7 = .ok (.istore_n 3, 1) := by decide +kernel
theorem dX12_sayingNow_8 : decode cX12_sayingNow 8 = .ok (.iload_n 3, 1) := by decide +kernel
theorem dX12_sayingNow_9 : decode cX12_sayingNow 9 = .ok (.aload_n 0, 1) := by decide +kernel
theorem dX12_sayingNow_10 : decode cX12_sayingNow 10 = .ok (.getfield 89, 3) := by decide +kernel
theorem dX12_sayingNow_13 : decode cX12_sayingNow 13 = .ok (.if_icmp .ge 27, 3) := by decide +kernel
theorem dX12_sayingNow_16 : decode cX12_sayingNow 16 = .ok (.iload_n 2, 1) := by decide +kernel
theorem dX12_sayingNow_17 : decode cX12_sayingNow 17 = .ok (.aload_n 0, 1) := by decide +kernel
theorem dX12_sayingNow_18 : decode cX12_sayingNow 18 = .ok (.getfield 38, 3) := by decide +kernel
theorem dX12_sayingNow_21 : decode cX12_sayingNow 21 = .ok (.iload_n 3, 1) := by decide +kernel
theorem dX12_sayingNow_22 : decode cX12_sayingNow 22 = .ok (.iaload, 1) := by decide +kernel
theorem dX12_sayingNow_23 : decode cX12_sayingNow 23 = .ok (.iload_n 1, 1) := by decide +kernel
theorem dX12_sayingNow_24 : decode cX12_sayingNow 24 = .ok (.if_icmp .le 7, 3) := by decide +kernel
theorem dX12_sayingNow_27 : decode cX12_sayingNow 27 = .ok (.iconst 1, 1) := by decide +kernel
theorem dX12_sayingNow_28 : decode cX12_sayingNow 28 = .ok (.goto 4, 3) := by decide +kernel
theorem dX12_sayingNow_31 : decode cX12_sayingNow 31 = .ok (.iconst 0, 1) := by decide +kernel
theorem dX12_sayingNow_32 : decode cX12_sayingNow 32 = .ok (.iadd, 1) := by decide +kernel
theorem dX12_sayingNow_33 : decode cX12_sayingNow 33 = .ok (.istore_n 2, 1) := by decide +kernel
theorem dX12_sayingNow_34 : decode cX12_sayingNow 34 = .ok (.iinc 3 1, 3) := by decide +kernel
theorem dX12_sayingNow_37 : decode cX12_sayingNow 37 = .ok (.goto (-29), 3) := by decide +kernel
theorem dX12_sayingNow_40 : decode cX12_sayingNow 40 = .ok (.iload_n 2, 1) := by decide +kernel
theorem dX12_sayingNow_41 : decode cX12_sayingNow 41 = .ok (.ireturn, 1) := by decide +kernel
theorem dX12_saying_0 : decode cX12_saying 0 = .ok (.iload_n 1, 1) := by decide +kernel
theorem dX12_saying_1 : decode cX12_saying 1 = .ok (.iconst 1, 1) := by decide +kernel
theorem dX12_saying_2 : decode cX12_saying 2 = .ok (.bipush 40, 2) := by decide +kernel
theorem dX12_saying_4 : decode cX12_saying 4 = .ok (.invokestatic 59, 3) := by decide +kernel
theorem dX12_saying_7 : decode cX12_saying 7 = .ok (.ifCond .ne 6, 3) := by decide +kernel
theorem dX12_saying_10 : decode cX12_saying 10 = .ok (.bipush (-102), 2) := by decide +kernel
theorem dX12_saying_12 : decode cX12_saying 12 = .ok (.ireturn, 1) := by decide +kernel
theorem dX12_saying_13 : decode cX12_saying 13 = .ok (.aload_n 0, 1) := by decide +kernel
theorem dX12_saying_14 : decode cX12_saying 14 = .ok (.getfield 89, 3) := by decide +kernel
theorem dX12_saying_17 : decode cX12_saying 17 = .ok (.ifCond .ne 8, 3) := by decide +kernel
theorem dX12_saying_20 : decode cX12_saying 20 = .ok (.bipush (-103), 2) := by decide +kernel
theorem dX12_saying_22 : decode cX12_saying 22 = .ok (.goto 8, 3) := by decide +kernel
theorem dX12_saying_25 : decode cX12_saying 25 = .ok (.aload_n 0, 1) := by decide +kernel
theorem dX12_saying_26 : decode cX12_saying 26 = .ok (.iload_n 1, 1) := by decide +kernel
theorem dX12_saying_27 : decode cX12_saying 27 = .ok (.invokevirtual 137, 3) := by decide +kernel
theorem dX12_saying_30 : decode cX12_saying 30 = .ok (.ireturn, 1) := by decide +kernel
theorem dX12_lotNow_0 : decode cX12_lotNow 0 = .ok (.aload_n 0, 1) := by decide +kernel
theorem dX12_lotNow_1 : decode cX12_lotNow 1 = .ok (.invokevirtual 123, 3) := by decide +kernel
theorem dX12_lotNow_4 : decode cX12_lotNow 4 = .ok (.aload_n 0, 1) := by decide +kernel
theorem dX12_lotNow_5 : decode cX12_lotNow 5 = .ok (.invokevirtual 117, 3) := by decide +kernel
theorem dX12_lotNow_8 : decode cX12_lotNow 8 = .ok (.istore_n 2, 1) := by decide +kernel
theorem dX12_lotNow_9 : decode cX12_lotNow 9 = .ok (.iload_n 2, 1) := by decide +kernel
theorem dX12_lotNow_10 : decode cX12_lotNow 10 = .ok (.iconst (-1), 1) := by decide +kernel
theorem dX12_lotNow_11 : decode cX12_lotNow 11 = .ok (.if_icmp .eq 7, 3) := by decide +kernel
theorem dX12_lotNow_14 : decode cX12_lotNow 14 = .ok (.iload_n 1, 1) := by decide +kernel
theorem dX12_lotNow_15 : decode cX12_lotNow 15 = .ok (.ifCond .ne 7, 3) := by decide +kernel
theorem dX12_lotNow_18 : decode cX12_lotNow 18 = .ok (.iload_n 2, 1) := by decide +kernel
theorem dX12_lotNow_19 : decode cX12_lotNow 19 = .ok (.goto 21, 3) := by decide +kernel
theorem dX12_lotNow_22 : decode cX12_lotNow 22 = .ok (.iload_n 1, 1) := by decide +kernel
theorem dX12_lotNow_23 : decode cX12_lotNow 23 = .ok (.iconst 1, 1) := by decide +kernel
theorem dX12_lotNow_24 : decode cX12_lotNow 24 = .ok (.if_icmp .ne 11, 3) := by decide +kernel
theorem dX12_lotNow_27 : decode cX12_lotNow 27 = .ok (.aload_n 0, 1) := by decide +kernel
theorem dX12_lotNow_28 : decode cX12_lotNow 28 = .ok (.iload_n 2, 1) := by decide +kernel
theorem dX12_lotNow_29 : decode cX12_lotNow 29 = .ok (.invokevirtual 120, 3) := by decide +kernel
theorem dX12_lotNow_32 : decode cX12_lotNow 32 = .ok (.goto 8, 3) := by decide +kernel
theorem dX12_lotNow_35 : decode cX12_lotNow 35 = .ok (.aload_n 0, 1) := by decide +kernel
theorem dX12_lotNow_36 : decode cX12_lotNow 36 = .ok (.iload_n 2, 1) := by decide +kernel
theorem dX12_lotNow_37 : decode cX12_lotNow 37 = .ok (.invokevirtual 108, 3) := by decide +kernel
theorem dX12_lotNow_40 : decode cX12_lotNow 40 = .ok (.ireturn, 1) := by decide +kernel
theorem dX12_lot_0 : decode cX12_lot 0 = .ok (.iload_n 1, 1) := by decide +kernel
theorem dX12_lot_1 : decode cX12_lot 1 = .ok (.iconst 0, 1) := by decide +kernel
theorem dX12_lot_2 : decode cX12_lot 2 = .ok (.iconst 2, 1) := by decide +kernel
theorem dX12_lot_3 : decode cX12_lot 3 = .ok (.invokestatic 59, 3) := by decide +kernel
theorem dX12_lot_6 : decode cX12_lot 6 = .ok (.ifCond .ne 6, 3) := by decide +kernel
theorem dX12_lot_9 : decode cX12_lot 9 = .ok (.bipush (-102), 2) := by decide +kernel
theorem dX12_lot_11 : decode cX12_lot 11 = .ok (.ireturn, 1) := by decide +kernel
theorem dX12_lot_12 : decode cX12_lot 12 = .ok (.aload_n 0, 1) := by decide +kernel
theorem dX12_lot_13 : decode cX12_lot 13 = .ok (.getfield 89, 3) := by decide +kernel
theorem dX12_lot_16 : decode cX12_lot 16 = .ok (.ifCond .ne 8, 3) := by decide +kernel
theorem dX12_lot_19 : decode cX12_lot 19 = .ok (.bipush (-103), 2) := by decide +kernel
theorem dX12_lot_21 : decode cX12_lot 21 = .ok (.goto 8, 3) := by decide +kernel
theorem dX12_lot_24 : decode cX12_lot 24 = .ok (.aload_n 0, 1) := by decide +kernel
theorem dX12_lot_25 : decode cX12_lot 25 = .ok (.iload_n 1, 1) := by decide +kernel
theorem dX12_lot_26 : decode cX12_lot 26 = .ok (.invokevirtual 140, 3) := by decide +kernel
theorem dX12_lot_29 : decode cX12_lot 29 = .ok (.ireturn, 1) := by decide +kernel
theorem dX12_gainBy_0 : decode cX12_gainBy 0 = .ok (.aload_n 0, 1) := by decide +kernel
theorem dX12_gainBy_1 : decode cX12_gainBy 1 = .ok (.getfield 22, 3) := by decide +kernel
theorem dX12_gainBy_4 : decode cX12_gainBy 4 = .ok (.iload_n 1, 1) := by decide +kernel
theorem dX12_gainBy_5 : decode cX12_gainBy 5 = .ok (.iaload, 1) := by decide +kernel
theorem dX12_gainBy_6 : decode cX12_gainBy 6 = .ok (.istore_n 3, 1) := by decide +kernel
theorem dX12_gainBy_7 : decode cX12_gainBy 7 = .ok (.aload_n 0, 1) := by decide +kernel
theorem dX12_gainBy_8 : decode cX12_gainBy 8 = .ok (.getfield 22, 3) := by decide +kernel
theorem dX12_gainBy_11 : decode cX12_gainBy 11 = .ok (.iload_n 1, 1) := by decide +kernel
theorem dX12_gainBy_12 : decode cX12_gainBy 12 = .ok (.iload_n 2, 1) := by decide +kernel
theorem dX12_gainBy_13 : decode cX12_gainBy 13 = .ok (.iastore, 1) := by decide +kernel
theorem dX12_gainBy_14 : decode cX12_gainBy 14 = .ok (.aload_n 0, 1) := by decide +kernel
theorem dX12_gainBy_15 : decode cX12_gainBy 15 = .ok (.invokevirtual 123, 3) := by decide +kernel
theorem dX12_gainBy_18 : decode cX12_gainBy 18 = .ok (.aload_n 0, 1) := by decide +kernel
theorem dX12_gainBy_19 : decode cX12_gainBy 19 = .ok (.iload_n 1, 1) := by decide +kernel
theorem dX12_gainBy_20 : decode cX12_gainBy 20 = .ok (.invokevirtual 126, 3) := by decide +kernel
theorem dX12_gainBy_23 : decode cX12_gainBy 23 = .ok (.istore 4, 2) := by decide +kernel
theorem dX12_gainBy_25 : decode cX12_gainBy 25 = .ok (.aload_n 0, 1) := by decide +kernel
theorem dX12_gainBy_26 : decode cX12_gainBy 26 = .ok (.getfield 22, 3) := by decide +kernel
theorem dX12_gainBy_29 : decode cX12_gainBy 29 = .ok (.iload_n 1, 1) := by decide +kernel
theorem dX12_gainBy_30 : decode cX12_gainBy 30 = .ok (.iload_n 3, 1) := by decide +kernel
theorem dX12_gainBy_31 : decode cX12_gainBy 31 = .ok (.iastore, 1) := by decide +kernel
theorem dX12_gainBy_32 : decode cX12_gainBy 32 = .ok (.iload 4, 2) := by decide +kernel
theorem dX12_gainBy_34 : decode cX12_gainBy 34 = .ok (.ireturn, 1) := by decide +kernel
theorem dX12_bestNow_0 : decode cX12_bestNow 0 = .ok (.iconst 1, 1) := by decide +kernel
theorem dX12_bestNow_1 : decode cX12_bestNow 1 = .ok (.istore_n 3, 1) := by decide +kernel
theorem dX12_bestNow_2 : decode cX12_bestNow 2 = .ok (.aload_n 0, 1) := by decide +kernel
theorem dX12_bestNow_3 : decode cX12_bestNow 3 = .ok (.iload_n 1, 1) := by decide +kernel
theorem dX12_bestNow_4 : decode cX12_bestNow 4 = .ok (.iconst 1, 1) := by decide +kernel
theorem dX12_bestNow_5 : decode cX12_bestNow 5 = .ok (.invokevirtual 143, 3) := by decide +kernel
theorem dX12_bestNow_8 : decode cX12_bestNow 8 = .ok (.istore 4, 2) := by decide +kernel
theorem dX12_bestNow_10 : decode cX12_bestNow 10 = .ok (.iconst 2, 1) := by decide +kernel
theorem dX12_bestNow_11 : decode cX12_bestNow 11 = .ok (.istore 5, 2) := by decide +kernel
theorem dX12_bestNow_13 : decode cX12_bestNow 13 = .ok (.iload 5, 2) := by decide +kernel
theorem dX12_bestNow_15 : decode cX12_bestNow 15 = .ok (.bipush 30, 2) := by decide +kernel
theorem dX12_bestNow_17 : decode cX12_bestNow 17 = .ok (.if_icmp .gt 48, 3) := by decide +kernel
theorem dX12_bestNow_20 : decode cX12_bestNow 20 = .ok (.aload_n 0, 1) := by decide +kernel
theorem dX12_bestNow_21 : decode cX12_bestNow 21 = .ok (.iload_n 1, 1) := by decide +kernel
theorem dX12_bestNow_22 : decode cX12_bestNow 22 = .ok (.iload 5, 2) := by decide +kernel
theorem dX12_bestNow_24 : decode cX12_bestNow 24 = .ok (.invokevirtual 143, 3) := by decide +kernel
theorem dX12_bestNow_27 : decode cX12_bestNow 27 = .ok (.istore 6, 2) := by decide +kernel
theorem dX12_bestNow_29 : decode cX12_bestNow 29 = .ok (.iload 6, 2) := by decide +kernel
theorem dX12_bestNow_31 : decode cX12_bestNow 31 = .ok (.iload 4, 2) := by decide +kernel
theorem dX12_bestNow_33 : decode cX12_bestNow 33 = .ok (.if_icmp .le 8, 3) := by decide +kernel
theorem dX12_bestNow_36 : decode cX12_bestNow 36 = .ok (.iload 5, 2) := by decide +kernel
theorem dX12_bestNow_38 : decode cX12_bestNow 38 = .ok (.goto 4, 3) := by decide +kernel
theorem dX12_bestNow_41 : decode cX12_bestNow 41 = .ok (.iload_n 3, 1) := by decide +kernel
theorem dX12_bestNow_42 : decode cX12_bestNow 42 = .ok (.istore_n 3, 1) := by decide +kernel
theorem dX12_bestNow_43 : decode cX12_bestNow 43 = .ok (.iload 6, 2) := by decide +kernel
theorem dX12_bestNow_45 : decode cX12_bestNow 45 = .ok (.iload 4, 2) := by decide +kernel
theorem dX12_bestNow_47 : decode cX12_bestNow 47 = .ok (.if_icmp .le 8, 3) := by decide +kernel
theorem dX12_bestNow_50 : decode cX12_bestNow 50 = .ok (.iload 6, 2) := by decide +kernel
theorem dX12_bestNow_52 : decode cX12_bestNow 52 = .ok (.goto 5, 3) := by decide +kernel
theorem dX12_bestNow_55 : decode cX12_bestNow 55 = .ok (.iload 4, 2) := by decide +kernel
theorem dX12_bestNow_57 : decode cX12_bestNow 57 = .ok (.istore 4, 2) := by decide +kernel
theorem dX12_bestNow_59 : decode cX12_bestNow 59 = .ok (.iinc 5 1, 3) := by decide +kernel
theorem dX12_bestNow_62 : decode cX12_bestNow 62 = .ok (.goto (-49), 3) := by decide +kernel
theorem dX12_bestNow_65 : decode cX12_bestNow 65 = .ok (.iload_n 2, 1) := by decide +kernel
theorem dX12_bestNow_66 : decode cX12_bestNow 66 = .ok (.ifCond .ne 7, 3) := by decide +kernel
theorem dX12_bestNow_69 : decode cX12_bestNow 69 = .ok (.iload_n 3, 1) := by decide +kernel
theorem dX12_bestNow_70 : decode cX12_bestNow 70 = .ok (.goto 8, 3) := by decide +kernel
theorem dX12_bestNow_73 : decode cX12_bestNow 73 = .ok (.iload 4, 2) := by decide +kernel
theorem dX12_bestNow_75 : decode cX12_bestNow 75 = .ok (.bipush 100, 2) := by decide +kernel
theorem dX12_bestNow_77 : decode cX12_bestNow 77 = .ok (.iadd, 1) := by decide +kernel
theorem dX12_bestNow_78 : decode cX12_bestNow 78 = .ok (.ireturn, 1) := by decide +kernel
theorem dX12_best_0 : decode cX12_best 0 = .ok (.aload_n 0, 1) := by decide +kernel
theorem dX12_best_1 : decode cX12_best 1 = .ok (.iload_n 1, 1) := by decide +kernel
theorem dX12_best_2 : decode cX12_best 2 = .ok (.invokevirtual 129, 3) := by decide +kernel
theorem dX12_best_5 : decode cX12_best 5 = .ok (.ifCond .ne 6, 3) := by decide +kernel
theorem dX12_best_8 : decode cX12_best 8 = .ok (.bipush (-101), 2) := by decide +kernel
theorem dX12_best_10 : decode cX12_best 10 = .ok (.ireturn, 1) := by decide +kernel
theorem dX12_best_11 : decode cX12_best 11 = .ok (.iload_n 2, 1) := by decide +kernel
theorem dX12_best_12 : decode cX12_best 12 = .ok (.iconst 0, 1) := by decide +kernel
theorem dX12_best_13 : decode cX12_best 13 = .ok (.iconst 1, 1) := by decide +kernel
theorem dX12_best_14 : decode cX12_best 14 = .ok (.invokestatic 59, 3) := by decide +kernel
theorem dX12_best_17 : decode cX12_best 17 = .ok (.ifCond .eq 12, 3) := by decide +kernel
theorem dX12_best_20 : decode cX12_best 20 = .ok (.aload_n 0, 1) := by decide +kernel
theorem dX12_best_21 : decode cX12_best 21 = .ok (.iload_n 1, 1) := by decide +kernel
theorem dX12_best_22 : decode cX12_best 22 = .ok (.iload_n 2, 1) := by decide +kernel
theorem dX12_best_23 : decode cX12_best 23 = .ok (.invokevirtual 146, 3) := by decide +kernel
theorem dX12_best_26 : decode cX12_best 26 = .ok (.goto 5, 3) := by decide +kernel
theorem dX12_best_29 : decode cX12_best 29 = .ok (.bipush (-102), 2) := by decide +kernel
theorem dX12_best_31 : decode cX12_best 31 = .ok (.ireturn, 1) := by decide +kernel
theorem dX12_save_0 : decode cX12_save 0 = .ok (.iconst 0, 1) := by decide +kernel
theorem dX12_save_1 : decode cX12_save 1 = .ok (.istore_n 1, 1) := by decide +kernel
theorem dX12_save_2 : decode cX12_save 2 = .ok (.iload_n 1, 1) := by decide +kernel
theorem dX12_save_3 : decode cX12_save 3 = .ok (.aload_n 0, 1) := by decide +kernel
theorem dX12_save_4 : decode cX12_save 4 = .ok (.getfield 89, 3) := by decide +kernel
theorem dX12_save_7 : decode cX12_save 7 = .ok (.if_icmp .ge 21, 3) := by decide +kernel
theorem dX12_save_10 : decode cX12_save 10 = .ok (.aload_n 0, 1) := by decide +kernel
theorem dX12_save_11 : decode cX12_save 11 = .ok (.getfield 41, 3) := by decide +kernel
theorem dX12_save_14 : decode cX12_save 14 = .ok (.iload_n 1, 1) := by decide +kernel
theorem dX12_save_15 : decode cX12_save 15 = .ok (.aload_n 0, 1) := by decide +kernel
theorem dX12_save_16 : decode cX12_save 16 = .ok (.getfield 22, 3) := by decide +kernel
theorem dX12_save_19 : decode cX12_save 19 = .ok (.iload_n 1, 1) := by decide +kernel
theorem dX12_save_20 : decode cX12_save 20 = .ok (.iaload, 1) := by decide +kernel
theorem dX12_save_21 : decode cX12_save 21 = .ok (.iastore, 1) := by decide +kernel
theorem dX12_save_22 : decode cX12_save 22 = .ok (.iinc 1 1, 3) := by decide +kernel
theorem dX12_save_25 : decode cX12_save 25 = .ok (.goto (-23), 3) := by decide +kernel
theorem dX12_save_28 : decode cX12_save 28 = .ok (.return_, 1) := by decide +kernel
theorem dX12_load_0 : decode cX12_load 0 = .ok (.iconst 0, 1) := by decide +kernel
theorem dX12_load_1 : decode cX12_load 1 = .ok (.istore_n 1, 1) := by decide +kernel
theorem dX12_load_2 : decode cX12_load 2 = .ok (.iload_n 1, 1) := by decide +kernel
theorem dX12_load_3 : decode cX12_load 3 = .ok (.aload_n 0, 1) := by decide +kernel
theorem dX12_load_4 : decode cX12_load 4 = .ok (.getfield 89, 3) := by decide +kernel
theorem dX12_load_7 : decode cX12_load 7 = .ok (.if_icmp .ge 21, 3) := by decide +kernel
theorem dX12_load_10 : decode cX12_load 10 = .ok (.aload_n 0, 1) := by decide +kernel
theorem dX12_load_11 : decode cX12_load 11 = .ok (.getfield 22, 3) := by decide +kernel
theorem dX12_load_14 : decode cX12_load 14 = .ok (.iload_n 1, 1) := by decide +kernel
theorem dX12_load_15 : decode cX12_load 15 = .ok (.aload_n 0, 1) := by decide +kernel
theorem dX12_load_16 : decode cX12_load 16 = .ok (.getfield 41, 3) := by decide +kernel
theorem dX12_load_19 : decode cX12_load 19 = .ok (.iload_n 1, 1) := by decide +kernel
theorem dX12_load_20 : decode cX12_load 20 = .ok (.iaload, 1) := by decide +kernel
theorem dX12_load_21 : decode cX12_load 21 = .ok (.iastore, 1) := by decide +kernel
theorem dX12_load_22 : decode cX12_load 22 = .ok (.iinc 1 1, 3) := by decide +kernel
theorem dX12_load_25 : decode cX12_load 25 = .ok (.goto (-23), 3) := by decide +kernel
theorem dX12_load_28 : decode cX12_load 28 = .ok (.return_, 1) := by decide +kernel
theorem dX12_chooseBy_0 : decode cX12_chooseBy 0 = .ok (.iload_n 1, 1) := by decide +kernel
theorem dX12_chooseBy_1 : decode cX12_chooseBy 1 = .ok (.istore_n 3, 1) := by decide +kernel
theorem dX12_chooseBy_2 : decode cX12_chooseBy 2 = .ok (.aload_n 0, 1) := by decide +kernel
theorem dX12_chooseBy_3 : decode cX12_chooseBy 3 = .ok (.getfield 89, 3) := by decide +kernel
theorem dX12_chooseBy_6 : decode cX12_chooseBy 6 = .ok (.iconst 1, 1) := by decide +kernel
theorem dX12_chooseBy_7 : decode cX12_chooseBy 7 = .ok (.isub, 1) := by decide +kernel
theorem dX12_chooseBy_8 : decode cX12_chooseBy 8 = .ok (.istore 4, 2) := by decide +kernel
theorem dX12_chooseBy_10 : decode cX12_chooseBy 10 = .ok (.iload 4, 2) := by decide +kernel
theorem dX12_chooseBy_12 : decode cX12_chooseBy 12 = .ok (.ifCond .lt 25, 3) := by decide +kernel
theorem dX12_chooseBy_15 : decode cX12_chooseBy 15 = .ok (.aload_n 0, 1) := by decide +kernel
theorem dX12_chooseBy_16 : decode cX12_chooseBy 16 = .ok (.getfield 22, 3) := by decide +kernel
theorem dX12_chooseBy_19 : decode cX12_chooseBy 19 = .ok (.iload 4, 2) := by decide +kernel
theorem dX12_chooseBy_21 : decode cX12_chooseBy 21 = .ok (.iload_n 3, 1) := by decide +kernel
theorem dX12_chooseBy_22 : decode cX12_chooseBy 22 = .ok (.iload_n 2, 1) := by decide +kernel
theorem dX12_chooseBy_23 : decode cX12_chooseBy 23 = .ok (.irem, 1) := by decide +kernel
theorem dX12_chooseBy_24 : decode cX12_chooseBy 24 = .ok (.iconst 1, 1) := by decide +kernel
theorem dX12_chooseBy_25 : decode cX12_chooseBy 25 = .ok (.iadd, 1) := by decide +kernel
theorem dX12_chooseBy_26 : decode cX12_chooseBy 26 = .ok (.iastore, 1) := by decide +kernel
theorem dX12_chooseBy_27 : decode cX12_chooseBy 27 = .ok (.iload_n 3, 1) := by decide +kernel
theorem dX12_chooseBy_28 : decode cX12_chooseBy 28 = .ok (.iload_n 2, 1) := by decide +kernel
theorem dX12_chooseBy_29 : decode cX12_chooseBy 29 = .ok (.idiv, 1) := by decide +kernel
theorem dX12_chooseBy_30 : decode cX12_chooseBy 30 = .ok (.istore_n 3, 1) := by decide +kernel
theorem dX12_chooseBy_31 : decode cX12_chooseBy 31 = .ok (.iinc 4 (-1), 3) := by decide +kernel
theorem dX12_chooseBy_34 : decode cX12_chooseBy 34 = .ok (.goto (-24), 3) := by decide +kernel
theorem dX12_chooseBy_37 : decode cX12_chooseBy 37 = .ok (.return_, 1) := by decide +kernel
theorem dX12_isRest_0 : decode cX12_isRest 0 = .ok (.iconst 1, 1) := by decide +kernel
theorem dX12_isRest_1 : decode cX12_isRest 1 = .ok (.istore_n 2, 1) := by decide +kernel
theorem dX12_isRest_2 : decode cX12_isRest 2 = .ok (.iconst 0, 1) := by decide +kernel
theorem dX12_isRest_3 : decode cX12_isRest 3 = .ok (.istore_n 3, 1) := by decide +kernel
theorem dX12_isRest_4 : decode cX12_isRest 4 = .ok (.iload_n 3, 1) := by decide +kernel
theorem dX12_isRest_5 : decode cX12_isRest 5 = .ok (.aload_n 0, 1) := by decide +kernel
theorem dX12_isRest_6 : decode cX12_isRest 6 = .ok (.getfield 89, 3) := by decide +kernel
theorem dX12_isRest_9 : decode cX12_isRest 9 = .ok (.if_icmp .ge 63, 3) := by decide +kernel
theorem dX12_isRest_12 : decode cX12_isRest 12 = .ok (.iload_n 2, 1) := by decide +kernel
theorem dX12_isRest_13 : decode cX12_isRest 13 = .ok (.ifCond .eq 59, 3) := by decide +kernel
theorem dX12_isRest_16 : decode cX12_isRest 16 = .ok (.aload_n 0, 1) := by decide +kernel
theorem dX12_isRest_17 : decode cX12_isRest 17 = .ok (.iload_n 3, 1) := by decide +kernel
theorem dX12_isRest_18 : decode cX12_isRest 18 = .ok (.aload_n 0, 1) := by decide +kernel
theorem dX12_isRest_19 : decode cX12_isRest 19 = .ok (.getfield 22, 3) := by decide +kernel
theorem dX12_isRest_22 : decode cX12_isRest 22 = .ok (.iload_n 3, 1) := by decide +kernel
theorem dX12_isRest_23 : decode cX12_isRest 23 = .ok (.iaload, 1) := by decide +kernel
theorem dX12_isRest_24 : decode cX12_isRest 24 = .ok (.invokevirtual 143, 3) := by decide +kernel
theorem dX12_isRest_27 : decode cX12_isRest 27 = .ok (.istore 4, 2) := by decide +kernel
theorem dX12_isRest_29 : decode cX12_isRest 29 = .ok (.iconst 1, 1) := by decide +kernel
theorem dX12_isRest_30 : decode cX12_isRest 30 = .ok (.istore 5, 2) := by decide +kernel
theorem dX12_isRest_32 : decode cX12_isRest 32 = .ok (.iload 5, 2) := by decide +kernel
theorem dX12_isRest_34 : decode cX12_isRest 34 = .ok (.iload_n 1, 1) := by decide +kernel
theorem dX12_isRest_35 : decode cX12_isRest 35 = .ok (.if_icmp .gt 31, 3) := by decide +kernel
theorem dX12_isRest_38 : decode cX12_isRest 38 = .ok (.iload_n 2, 1) := by decide +kernel
theorem dX12_isRest_39 : decode cX12_isRest 39 = .ok (.ifCond .eq 19, 3) := by decide +kernel
theorem dX12_isRest_42 : decode cX12_isRest 42 = .ok (.aload_n 0, 1) := by decide +kernel
theorem dX12_isRest_43 : decode cX12_isRest 43 = .ok (.iload_n 3, 1) := by decide +kernel
theorem dX12_isRest_44 : decode cX12_isRest 44 = .ok (.iload 5, 2) := by decide +kernel
theorem dX12_isRest_46 : decode cX12_isRest 46 = .ok (.invokevirtual 143, 3) := by decide +kernel
theorem dX12_isRest_49 : decode cX12_isRest 49 = .ok (.iload 4, 2) := by decide +kernel
theorem dX12_isRest_51 : decode cX12_isRest 51 = .ok (.if_icmp .gt 7, 3) := by decide +kernel
theorem dX12_isRest_54 : decode cX12_isRest 54 = .ok (.iconst 1, 1) := by decide +kernel
theorem dX12_isRest_55 : decode cX12_isRest 55 = .ok (.goto 4, 3) := by decide +kernel
theorem dX12_isRest_58 : decode cX12_isRest 58 = .ok (.iconst 0, 1) := by decide +kernel
theorem dX12_isRest_59 : decode cX12_isRest 59 = .ok (.istore_n 2, 1) := by decide +kernel
theorem dX12_isRest_60 : decode cX12_isRest 60 = .ok (.iinc 5 1, 3) := by decide +kernel
theorem dX12_isRest_63 : decode cX12_isRest 63 = .ok (.goto (-31), 3) := by decide +kernel
theorem dX12_isRest_66 : decode cX12_isRest 66 = .ok (.iinc 3 1, 3) := by decide +kernel
theorem dX12_isRest_69 : decode cX12_isRest 69 = .ok (.goto (-65), 3) := by decide +kernel
theorem dX12_isRest_72 : decode cX12_isRest 72 = .ok (.iload_n 2, 1) := by decide +kernel
theorem dX12_isRest_73 : decode cX12_isRest 73 = .ok (.ireturn, 1) := by decide +kernel
theorem dX12_restsNow_0 : decode cX12_restsNow 0 = .ok (.aload_n 0, 1) := by decide +kernel
theorem dX12_restsNow_1 : decode cX12_restsNow 1 = .ok (.invokevirtual 149, 3) := by decide +kernel
theorem dX12_restsNow_4 : decode cX12_restsNow 4 = .ok (.iconst 1, 1) := by decide +kernel
theorem dX12_restsNow_5 : decode cX12_restsNow 5 = .ok (.istore_n 3, 1) := by decide +kernel
theorem dX12_restsNow_6 : decode cX12_restsNow 6 = .ok (.iconst 0, 1) := by decide +kernel
theorem dX12_restsNow_7 : decode cX12_restsNow 7 = .ok (.istore 4, 2) := by decide +kernel
theorem dX12_restsNow_9 : decode cX12_restsNow 9 = .ok (.iload 4, 2) := by decide +kernel
theorem dX12_restsNow_11 : decode cX12_restsNow 11 = .ok (.aload_n 0, 1) := by decide +kernel
theorem dX12_restsNow_12 : decode cX12_restsNow 12 = .ok (.getfield 89, 3) := by decide +kernel
theorem dX12_restsNow_15 : decode cX12_restsNow 15 = .ok (.if_icmp .ge 13, 3) := by decide +kernel
theorem dX12_restsNow_18 : decode cX12_restsNow 18 = .ok (.iload_n 3, 1) := by decide +kernel
theorem dX12_restsNow_19 : decode cX12_restsNow 19 = .ok (.iload_n 1, 1) := by decide +kernel
theorem dX12_restsNow_20 : decode cX12_restsNow 20 = .ok (.imul, 1) := by decide +kernel
theorem dX12_restsNow_21 : decode cX12_restsNow 21 = .ok (.istore_n 3, 1) := by decide +kernel
theorem dX12_restsNow_22 : decode cX12_restsNow 22 = .ok (.iinc 4 1, 3) := by decide +kernel
theorem dX12_restsNow_25 : decode cX12_restsNow 25 = .ok (.goto (-16), 3) := by decide +kernel
theorem dX12_restsNow_28 : decode cX12_restsNow 28 = .ok (.iconst 0, 1) := by decide +kernel
theorem dX12_restsNow_29 : decode cX12_restsNow 29 = .ok (.istore 4, 2) := by decide +kernel
theorem dX12_restsNow_31 : decode cX12_restsNow 31 = .ok (.iconst (-1), 1) := by decide +kernel
theorem dX12_restsNow_32 : decode cX12_restsNow 32 = .ok (.istore 5, 2) := by decide +kernel
theorem dX12_restsNow_34 : decode cX12_restsNow 34 = .ok (.iload_n 3, 1) := by decide +kernel
theorem dX12_restsNow_35 : decode cX12_restsNow 35 = .ok (.iconst 1, 1) := by decide +kernel
theorem dX12_restsNow_36 : decode cX12_restsNow 36 = .ok (.isub, 1) := by decide +kernel
theorem dX12_restsNow_37 : decode cX12_restsNow 37 = .ok (.istore 6, 2) := by decide +kernel
theorem dX12_restsNow_39 : decode cX12_restsNow 39 = .ok (.iload 6, 2) := by decide +kernel
theorem dX12_restsNow_41 : decode cX12_restsNow 41 = .ok (.ifCond .lt 52, 3) := by decide +kernel
theorem dX12_restsNow_44 : decode cX12_restsNow 44 = .ok (.aload_n 0, 1) := by decide +kernel
theorem dX12_restsNow_45 : decode cX12_restsNow 45 = .ok (.iload 6, 2) := by decide +kernel
theorem dX12_restsNow_47 : decode cX12_restsNow 47 = .ok (.iload_n 1, 1) := by decide +kernel
theorem dX12_restsNow_48 : decode cX12_restsNow 48 = .ok (.invokevirtual 152, 3) := by decide +kernel
theorem dX12_restsNow_51 : decode cX12_restsNow 51 = .ok (.aload_n 0, 1) := by decide +kernel
theorem dX12_restsNow_52 : decode cX12_restsNow 52 = .ok (.iload_n 1, 1) := by decide +kernel
theorem dX12_restsNow_53 : decode cX12_restsNow 53 = .ok (.invokevirtual 156, 3) := by decide +kernel
theorem dX12_restsNow_56 : decode cX12_restsNow 56 = .ok (.istore 7, 2) := by decide +kernel
theorem dX12_restsNow_58 : decode cX12_restsNow 58 = .ok (.iload 4, 2) := by decide +kernel
theorem dX12_restsNow_60 : decode cX12_restsNow 60 = .ok (.iload 7, 2) := by decide +kernel
theorem dX12_restsNow_62 : decode cX12_restsNow 62 = .ok (.ifCond .eq 7, 3) := by decide +kernel
theorem dX12_restsNow_65 : decode cX12_restsNow 65 = .ok (.iconst 1, 1) := by decide +kernel
theorem dX12_restsNow_66 : decode cX12_restsNow 66 = .ok (.goto 4, 3) := by decide +kernel
theorem dX12_restsNow_69 : decode cX12_restsNow 69 = .ok (.iconst 0, 1) := by decide +kernel
theorem dX12_restsNow_70 : decode cX12_restsNow 70 = .ok (.iadd, 1) := by decide +kernel
theorem dX12_restsNow_71 : decode cX12_restsNow 71 = .ok (.istore 4, 2) := by decide +kernel
theorem dX12_restsNow_73 : decode cX12_restsNow 73 = .ok (.iload 7, 2) := by decide +kernel
theorem dX12_restsNow_75 : decode cX12_restsNow 75 = .ok (.ifCond .eq 8, 3) := by decide +kernel
theorem dX12_restsNow_78 : decode cX12_restsNow 78 = .ok (.iload 6, 2) := by decide +kernel
theorem dX12_restsNow_80 : decode cX12_restsNow 80 = .ok (.goto 5, 3) := by decide +kernel
theorem dX12_restsNow_83 : decode cX12_restsNow 83 = .ok (.iload 5, 2) := by decide +kernel
theorem dX12_restsNow_85 : decode cX12_restsNow 85 = .ok (.istore 5, 2) := by decide +kernel
theorem dX12_restsNow_87 : decode cX12_restsNow 87 = .ok (.iinc 6 (-1), 3) := by decide +kernel
theorem dX12_restsNow_90 : decode cX12_restsNow 90 = .ok (.goto (-51), 3) := by decide +kernel
theorem dX12_restsNow_93 : decode cX12_restsNow 93 = .ok (.iconst (-1), 1) := by decide +kernel
theorem dX12_restsNow_94 : decode cX12_restsNow 94 = .ok (.istore 6, 2) := by decide +kernel
theorem dX12_restsNow_96 : decode cX12_restsNow 96 = .ok (.iload 5, 2) := by decide +kernel
theorem dX12_restsNow_98 : decode cX12_restsNow 98 = .ok (.iconst (-1), 1) := by decide +kernel
theorem dX12_restsNow_99 : decode cX12_restsNow 99 = .ok (.if_icmp .eq 32, 3) := by decide +kernel
theorem dX12_restsNow_102 : decode cX12_restsNow 102 = .ok (.aload_n 0, 1) := by decide +kernel
theorem dX12_restsNow_103 : decode cX12_restsNow 103 = .ok (.iload_n 2, 1) := by decide +kernel
theorem dX12_restsNow_104 : decode cX12_restsNow 104 = .ok (.bipush 10, 2) := by decide +kernel
theorem dX12_restsNow_106 : decode cX12_restsNow 106 = .ok (.isub, 1) := by decide +kernel
theorem dX12_restsNow_107 : decode cX12_restsNow 107 = .ok (.invokevirtual 129, 3) := by decide +kernel
theorem dX12_restsNow_110 : decode cX12_restsNow 110 = .ok (.ifCond .eq 21, 3) := by decide +kernel
theorem dX12_restsNow_113 : decode cX12_restsNow 113 = .ok (.aload_n 0, 1) := by decide +kernel
theorem dX12_restsNow_114 : decode cX12_restsNow 114 = .ok (.iload 5, 2) := by decide +kernel
theorem dX12_restsNow_116 : decode cX12_restsNow 116 = .ok (.iload_n 1, 1) := by decide +kernel
theorem dX12_restsNow_117 : decode cX12_restsNow 117 = .ok (.invokevirtual 152, 3) := by decide +kernel
theorem dX12_restsNow_120 : decode cX12_restsNow 120 = .ok (.aload_n 0, 1) := by decide +kernel
theorem dX12_restsNow_121 : decode cX12_restsNow 121 = .ok (.getfield 22, 3) := by decide +kernel
theorem dX12_restsNow_124 : decode cX12_restsNow 124 = .ok (.iload_n 2, 1) := by decide +kernel
theorem dX12_restsNow_125 : decode cX12_restsNow 125 = .ok (.bipush 10, 2) := by decide +kernel
theorem dX12_restsNow_127 : decode cX12_restsNow 127 = .ok (.isub, 1) := by decide +kernel
theorem dX12_restsNow_128 : decode cX12_restsNow 128 = .ok (.iaload, 1) := by decide +kernel
theorem dX12_restsNow_129 : decode cX12_restsNow 129 = .ok (.istore 6, 2) := by decide +kernel
theorem dX12_restsNow_131 : decode cX12_restsNow 131 = .ok (.aload_n 0, 1) := by decide +kernel
theorem dX12_restsNow_132 : decode cX12_restsNow 132 = .ok (.invokevirtual 159, 3) := by decide +kernel
theorem dX12_restsNow_135 : decode cX12_restsNow 135 = .ok (.iload_n 2, 1) := by decide +kernel
theorem dX12_restsNow_136 : decode cX12_restsNow 136 = .ok (.ifCond .ne 8, 3) := by decide +kernel
theorem dX12_restsNow_139 : decode cX12_restsNow 139 = .ok (.iload 4, 2) := by decide +kernel
theorem dX12_restsNow_141 : decode cX12_restsNow 141 = .ok (.goto 5, 3) := by decide +kernel
theorem dX12_restsNow_144 : decode cX12_restsNow 144 = .ok (.iload 6, 2) := by decide +kernel
theorem dX12_restsNow_146 : decode cX12_restsNow 146 = .ok (.ireturn, 1) := by decide +kernel
theorem dX12_rests_0 : decode cX12_rests 0 = .ok (.iload_n 1, 1) := by decide +kernel
theorem dX12_rests_1 : decode cX12_rests 1 = .ok (.iconst 1, 1) := by decide +kernel
theorem dX12_rests_2 : decode cX12_rests 2 = .ok (.iconst 4, 1) := by decide +kernel
theorem dX12_rests_3 : decode cX12_rests 3 = .ok (.invokestatic 59, 3) := by decide +kernel
theorem dX12_rests_6 : decode cX12_rests 6 = .ok (.ifCond .eq 18, 3) := by decide +kernel
theorem dX12_rests_9 : decode cX12_rests 9 = .ok (.iload_n 2, 1) := by decide +kernel
theorem dX12_rests_10 : decode cX12_rests 10 = .ok (.ifCond .eq 17, 3) := by decide +kernel
theorem dX12_rests_13 : decode cX12_rests 13 = .ok (.iload_n 2, 1) := by decide +kernel
theorem dX12_rests_14 : decode cX12_rests 14 = .ok (.bipush 10, 2) := by decide +kernel
theorem dX12_rests_16 : decode cX12_rests 16 = .ok (.bipush 14, 2) := by decide +kernel
theorem dX12_rests_18 : decode cX12_rests 18 = .ok (.invokestatic 59, 3) := by decide +kernel
theorem dX12_rests_21 : decode cX12_rests 21 = .ok (.ifCond .ne 6, 3) := by decide +kernel
theorem dX12_rests_24 : decode cX12_rests 24 = .ok (.bipush (-102), 2) := by decide +kernel
theorem dX12_rests_26 : decode cX12_rests 26 = .ok (.ireturn, 1) := by decide +kernel
theorem dX12_rests_27 : decode cX12_rests 27 = .ok (.aload_n 0, 1) := by decide +kernel
theorem dX12_rests_28 : decode cX12_rests 28 = .ok (.getfield 89, 3) := by decide +kernel
theorem dX12_rests_31 : decode cX12_rests 31 = .ok (.ifCond .eq 12, 3) := by decide +kernel
theorem dX12_rests_34 : decode cX12_rests 34 = .ok (.aload_n 0, 1) := by decide +kernel
theorem dX12_rests_35 : decode cX12_rests 35 = .ok (.getfield 162, 3) := by decide +kernel
theorem dX12_rests_38 : decode cX12_rests 38 = .ok (.bipush 20, 2) := by decide +kernel
theorem dX12_rests_40 : decode cX12_rests 40 = .ok (.if_icmp .ne 6, 3) := by decide +kernel
theorem dX12_rests_43 : decode cX12_rests 43 = .ok (.bipush (-103), 2) := by decide +kernel
theorem dX12_rests_45 : decode cX12_rests 45 = .ok (.ireturn, 1) := by decide +kernel
theorem dX12_rests_46 : decode cX12_rests 46 = .ok (.aload_n 0, 1) := by decide +kernel
theorem dX12_rests_47 : decode cX12_rests 47 = .ok (.dup, 1) := by decide +kernel
theorem dX12_rests_48 : decode cX12_rests 48 = .ok (.getfield 162, 3) := by decide +kernel
theorem dX12_rests_51 : decode cX12_rests 51 = .ok (.iconst 1, 1) := by decide +kernel
theorem dX12_rests_52 : decode cX12_rests 52 = .ok (.iadd, 1) := by decide +kernel
theorem dX12_rests_53 : decode cX12_rests 53 = .ok (.putfield 162, 3) := by decide +kernel
theorem dX12_rests_56 : decode cX12_rests 56 = .ok (.aload_n 0, 1) := by decide +kernel
theorem dX12_rests_57 : decode cX12_rests 57 = .ok (.iload_n 1, 1) := by decide +kernel
theorem dX12_rests_58 : decode cX12_rests 58 = .ok (.iload_n 2, 1) := by decide +kernel
theorem dX12_rests_59 : decode cX12_rests 59 = .ok (.invokevirtual 165, 3) := by decide +kernel
theorem dX12_rests_62 : decode cX12_rests 62 = .ok (.ireturn, 1) := by decide +kernel
theorem dX12_hear_0 : decode cX12_hear 0 = .ok (.aload_n 0, 1) := by decide +kernel
theorem dX12_hear_1 : decode cX12_hear 1 = .ok (.iload_n 1, 1) := by decide +kernel
theorem dX12_hear_2 : decode cX12_hear 2 = .ok (.invokevirtual 129, 3) := by decide +kernel
theorem dX12_hear_5 : decode cX12_hear 5 = .ok (.ifCond .ne 6, 3) := by decide +kernel
theorem dX12_hear_8 : decode cX12_hear 8 = .ok (.bipush (-101), 2) := by decide +kernel
theorem dX12_hear_10 : decode cX12_hear 10 = .ok (.ireturn, 1) := by decide +kernel
theorem dX12_hear_11 : decode cX12_hear 11 = .ok (.iload_n 2, 1) := by decide +kernel
theorem dX12_hear_12 : decode cX12_hear 12 = .ok (.iconst 1, 1) := by decide +kernel
theorem dX12_hear_13 : decode cX12_hear 13 = .ok (.bipush 40, 2) := by decide +kernel
theorem dX12_hear_15 : decode cX12_hear 15 = .ok (.invokestatic 59, 3) := by decide +kernel
theorem dX12_hear_18 : decode cX12_hear 18 = .ok (.ifCond .ne 6, 3) := by decide +kernel
theorem dX12_hear_21 : decode cX12_hear 21 = .ok (.bipush (-102), 2) := by decide +kernel
theorem dX12_hear_23 : decode cX12_hear 23 = .ok (.ireturn, 1) := by decide +kernel
theorem dX12_hear_24 : decode cX12_hear 24 = .ok (.aload_n 0, 1) := by decide +kernel
theorem dX12_hear_25 : decode cX12_hear 25 = .ok (.getfield 98, 3) := by decide +kernel
theorem dX12_hear_28 : decode cX12_hear 28 = .ok (.bipush 8, 2) := by decide +kernel
theorem dX12_hear_30 : decode cX12_hear 30 = .ok (.if_icmp .ne 6, 3) := by decide +kernel
theorem dX12_hear_33 : decode cX12_hear 33 = .ok (.bipush (-104), 2) := by decide +kernel
theorem dX12_hear_35 : decode cX12_hear 35 = .ok (.ireturn, 1) := by decide +kernel
theorem dX12_hear_36 : decode cX12_hear 36 = .ok (.aload_n 0, 1) := by decide +kernel
theorem dX12_hear_37 : decode cX12_hear 37 = .ok (.getfield 28, 3) := by decide +kernel
theorem dX12_hear_40 : decode cX12_hear 40 = .ok (.aload_n 0, 1) := by decide +kernel
theorem dX12_hear_41 : decode cX12_hear 41 = .ok (.getfield 98, 3) := by decide +kernel
theorem dX12_hear_44 : decode cX12_hear 44 = .ok (.iload_n 1, 1) := by decide +kernel
theorem dX12_hear_45 : decode cX12_hear 45 = .ok (.iastore, 1) := by decide +kernel
theorem dX12_hear_46 : decode cX12_hear 46 = .ok (.aload_n 0, 1) := by decide +kernel
theorem dX12_hear_47 : decode cX12_hear 47 = .ok (.getfield 31, 3) := by decide +kernel
theorem dX12_hear_50 : decode cX12_hear 50 = .ok (.aload_n 0, 1) := by decide +kernel
theorem dX12_hear_51 : decode cX12_hear 51 = .ok (.getfield 98, 3) := by decide +kernel
theorem dX12_hear_54 : decode cX12_hear 54 = .ok (.iload_n 2, 1) := by decide +kernel
theorem dX12_hear_55 : decode cX12_hear 55 = .ok (.iastore, 1) := by decide +kernel
theorem dX12_hear_56 : decode cX12_hear 56 = .ok (.aload_n 0, 1) := by decide +kernel
theorem dX12_hear_57 : decode cX12_hear 57 = .ok (.dup, 1) := by decide +kernel
theorem dX12_hear_58 : decode cX12_hear 58 = .ok (.getfield 98, 3) := by decide +kernel
theorem dX12_hear_61 : decode cX12_hear 61 = .ok (.iconst 1, 1) := by decide +kernel
theorem dX12_hear_62 : decode cX12_hear 62 = .ok (.iadd, 1) := by decide +kernel
theorem dX12_hear_63 : decode cX12_hear 63 = .ok (.putfield 98, 3) := by decide +kernel
theorem dX12_hear_66 : decode cX12_hear 66 = .ok (.aload_n 0, 1) := by decide +kernel
theorem dX12_hear_67 : decode cX12_hear 67 = .ok (.getfield 98, 3) := by decide +kernel
theorem dX12_hear_70 : decode cX12_hear 70 = .ok (.ireturn, 1) := by decide +kernel
theorem dX12_forget_0 : decode cX12_forget 0 = .ok (.aload_n 0, 1) := by decide +kernel
theorem dX12_forget_1 : decode cX12_forget 1 = .ok (.getfield 98, 3) := by decide +kernel
theorem dX12_forget_4 : decode cX12_forget 4 = .ok (.istore_n 1, 1) := by decide +kernel
theorem dX12_forget_5 : decode cX12_forget 5 = .ok (.aload_n 0, 1) := by decide +kernel
theorem dX12_forget_6 : decode cX12_forget 6 = .ok (.iconst 0, 1) := by decide +kernel
theorem dX12_forget_7 : decode cX12_forget 7 = .ok (.putfield 98, 3) := by decide +kernel
theorem dX12_forget_10 : decode cX12_forget 10 = .ok (.iload_n 1, 1) := by decide +kernel
theorem dX12_forget_11 : decode cX12_forget 11 = .ok (.ireturn, 1) := by decide +kernel
theorem dX12_isHeard_0 : decode cX12_isHeard 0 = .ok (.aload_n 0, 1) := by decide +kernel
theorem dX12_isHeard_1 : decode cX12_isHeard 1 = .ok (.invokevirtual 123, 3) := by decide +kernel
theorem dX12_isHeard_4 : decode cX12_isHeard 4 = .ok (.iconst 1, 1) := by decide +kernel
theorem dX12_isHeard_5 : decode cX12_isHeard 5 = .ok (.istore_n 2, 1) := by decide +kernel
theorem dX12_isHeard_6 : decode cX12_isHeard 6 = .ok (.iconst 0, 1) := by decide +kernel
theorem dX12_isHeard_7 : decode cX12_isHeard 7 = .ok (.istore_n 3, 1) := by decide +kernel
theorem dX12_isHeard_8 : decode cX12_isHeard 8 = .ok (.iload_n 3, 1) := by decide +kernel
theorem dX12_isHeard_9 : decode cX12_isHeard 9 = .ok (.aload_n 0, 1) := by decide +kernel
theorem dX12_isHeard_10 : decode cX12_isHeard 10 = .ok (.getfield 98, 3) := by decide +kernel
theorem dX12_isHeard_13 : decode cX12_isHeard 13 = .ok (.if_icmp .ge 65, 3) := by decide +kernel
theorem dX12_isHeard_16 : decode cX12_isHeard 16 = .ok (.iload_n 1, 1) := by decide +kernel
theorem dX12_isHeard_17 : decode cX12_isHeard 17 = .ok (.iconst (-1), 1) := by decide +kernel
theorem dX12_isHeard_18 : decode cX12_isHeard 18 = .ok (.if_icmp .eq 13, 3) := by decide +kernel
theorem dX12_isHeard_21 : decode cX12_isHeard 21 = .ok (.aload_n 0, 1) := by decide +kernel
theorem dX12_isHeard_22 : decode cX12_isHeard 22 = .ok (.getfield 28, 3) := by decide +kernel
theorem dX12_isHeard_25 : decode cX12_isHeard 25 = .ok (.iload_n 3, 1) := by decide +kernel
theorem dX12_isHeard_26 : decode cX12_isHeard 26 = .ok (.iaload, 1) := by decide +kernel
theorem dX12_isHeard_27 : decode cX12_isHeard 27 = .ok (.iload_n 1, 1) := by decide +kernel
theorem dX12_isHeard_28 : decode cX12_isHeard 28 = .ok (.if_icmp .ne 7, 3) := by decide +kernel
theorem dX12_isHeard_31 : decode cX12_isHeard 31 = .ok (.iconst 1, 1) := by decide +kernel
theorem dX12_isHeard_32 : decode cX12_isHeard 32 = .ok (.goto 4, 3) := by decide +kernel
theorem dX12_isHeard_35 : decode cX12_isHeard 35 = .ok (.iconst 0, 1) := by decide +kernel
theorem dX12_isHeard_36 : decode cX12_isHeard 36 = .ok (.istore 4, 2) := by decide +kernel
theorem dX12_isHeard_38 : decode cX12_isHeard 38 = .ok (.iload_n 2, 1) := by decide +kernel
theorem dX12_isHeard_39 : decode cX12_isHeard 39 = .ok (.ifCond .eq 31, 3) := by decide +kernel
theorem dX12_isHeard_42 : decode cX12_isHeard 42 = .ok (.iload 4, 2) := by decide +kernel
theorem dX12_isHeard_44 : decode cX12_isHeard 44 = .ok (.ifCond .eq 22, 3) := by decide +kernel
theorem dX12_isHeard_47 : decode cX12_isHeard 47 = .ok (.aload_n 0, 1) := by decide +kernel
theorem dX12_isHeard_48 : decode cX12_isHeard 48 = .ok (.aload_n 0, 1) := by decide +kernel
theorem dX12_isHeard_49 : decode cX12_isHeard 49 = .ok (.getfield 28, 3) := by decide +kernel
theorem dX12_isHeard_52 : decode cX12_isHeard 52 = .ok (.iload_n 3, 1) := by decide +kernel
theorem dX12_isHeard_53 : decode cX12_isHeard 53 = .ok (.iaload, 1) := by decide +kernel
theorem dX12_isHeard_54 : decode cX12_isHeard 54 = .ok (.invokevirtual 108, 3) := by decide +kernel
theorem dX12_isHeard_57 : decode cX12_isHeard 57 = .ok (.aload_n 0, 1) := by decide +kernel
theorem dX12_isHeard_58 : decode cX12_isHeard 58 = .ok (.getfield 31, 3) := by decide +kernel
theorem dX12_isHeard_61 : decode cX12_isHeard 61 = .ok (.iload_n 3, 1) := by decide +kernel
theorem dX12_isHeard_62 : decode cX12_isHeard 62 = .ok (.iaload, 1) := by decide +kernel
theorem dX12_isHeard_63 : decode cX12_isHeard 63 = .ok (.if_icmp .ne 7, 3) := by decide +kernel
theorem dX12_isHeard_66 : decode cX12_isHeard 66 = .ok (.iconst 1, 1) := by decide +kernel
theorem dX12_isHeard_67 : decode cX12_isHeard 67 = .ok (.goto 4, 3) := by decide +kernel
theorem dX12_isHeard_70 : decode cX12_isHeard 70 = .ok (.iconst 0, 1) := by decide +kernel
theorem dX12_isHeard_71 : decode cX12_isHeard 71 = .ok (.istore_n 2, 1) := by decide +kernel
theorem dX12_isHeard_72 : decode cX12_isHeard 72 = .ok (.iinc 3 1, 3) := by decide +kernel
theorem dX12_isHeard_75 : decode cX12_isHeard 75 = .ok (.goto (-67), 3) := by decide +kernel
theorem dX12_isHeard_78 : decode cX12_isHeard 78 = .ok (.iload_n 2, 1) := by decide +kernel
theorem dX12_isHeard_79 : decode cX12_isHeard 79 = .ok (.ireturn, 1) := by decide +kernel
theorem dX12_windsNow_0 : decode cX12_windsNow 0 = .ok (.aload_n 0, 1) := by decide +kernel
theorem dX12_windsNow_1 : decode cX12_windsNow 1 = .ok (.getfield 13, 3) := by decide +kernel
theorem dX12_windsNow_4 : decode cX12_windsNow 4 = .ok (.iload_n 1, 1) := by decide +kernel
theorem dX12_windsNow_5 : decode cX12_windsNow 5 = .ok (.iaload, 1) := by decide +kernel
theorem dX12_windsNow_6 : decode cX12_windsNow 6 = .ok (.istore_n 2, 1) := by decide +kernel
theorem dX12_windsNow_7 : decode cX12_windsNow 7 = .ok (.iconst 0, 1) := by decide +kernel
theorem dX12_windsNow_8 : decode cX12_windsNow 8 = .ok (.istore_n 3, 1) := by decide +kernel
theorem dX12_windsNow_9 : decode cX12_windsNow 9 = .ok (.iconst 1, 1) := by decide +kernel
theorem dX12_windsNow_10 : decode cX12_windsNow 10 = .ok (.istore 4, 2) := by decide +kernel
theorem dX12_windsNow_12 : decode cX12_windsNow 12 = .ok (.iload 4, 2) := by decide +kernel
theorem dX12_windsNow_14 : decode cX12_windsNow 14 = .ok (.bipush 9, 2) := by decide +kernel
theorem dX12_windsNow_16 : decode cX12_windsNow 16 = .ok (.if_icmp .gt 36, 3) := by decide +kernel
theorem dX12_windsNow_19 : decode cX12_windsNow 19 = .ok (.aload_n 0, 1) := by decide +kernel
theorem dX12_windsNow_20 : decode cX12_windsNow 20 = .ok (.getfield 13, 3) := by decide +kernel
theorem dX12_windsNow_23 : decode cX12_windsNow 23 = .ok (.iload_n 1, 1) := by decide +kernel
theorem dX12_windsNow_24 : decode cX12_windsNow 24 = .ok (.iload 4, 2) := by decide +kernel
theorem dX12_windsNow_26 : decode cX12_windsNow 26 = .ok (.iastore, 1) := by decide +kernel
theorem dX12_windsNow_27 : decode cX12_windsNow 27 = .ok (.iload_n 3, 1) := by decide +kernel
theorem dX12_windsNow_28 : decode cX12_windsNow 28 = .ok (.aload_n 0, 1) := by decide +kernel
theorem dX12_windsNow_29 : decode cX12_windsNow 29 = .ok (.iload_n 1, 1) := by decide +kernel
theorem dX12_windsNow_30 : decode cX12_windsNow 30 = .ok (.invokevirtual 168, 3) := by decide +kernel
theorem dX12_windsNow_33 : decode cX12_windsNow 33 = .ok (.ifCond .eq 10, 3) := by decide +kernel
theorem dX12_windsNow_36 : decode cX12_windsNow 36 = .ok (.iconst 1, 1) := by decide +kernel
theorem dX12_windsNow_37 : decode cX12_windsNow 37 = .ok (.iload 4, 2) := by decide +kernel
theorem dX12_windsNow_39 : decode cX12_windsNow 39 = .ok (.ishl, 1) := by decide +kernel
theorem dX12_windsNow_40 : decode cX12_windsNow 40 = .ok (.goto 4, 3) := by decide +kernel
theorem dX12_windsNow_43 : decode cX12_windsNow 43 = .ok (.iconst 0, 1) := by decide +kernel
theorem dX12_windsNow_44 : decode cX12_windsNow 44 = .ok (.ior, 1) := by decide +kernel
theorem dX12_windsNow_45 : decode cX12_windsNow 45 = .ok (.istore_n 3, 1) := by decide +kernel
theorem dX12_windsNow_46 : decode cX12_windsNow 46 = .ok (.iinc 4 1, 3) := by decide +kernel
theorem dX12_windsNow_49 : decode cX12_windsNow 49 = .ok (.goto (-37), 3) := by decide +kernel
theorem dX12_windsNow_52 : decode cX12_windsNow 52 = .ok (.aload_n 0, 1) := by decide +kernel
theorem dX12_windsNow_53 : decode cX12_windsNow 53 = .ok (.getfield 13, 3) := by decide +kernel
theorem dX12_windsNow_56 : decode cX12_windsNow 56 = .ok (.iload_n 1, 1) := by decide +kernel
theorem dX12_windsNow_57 : decode cX12_windsNow 57 = .ok (.iload_n 2, 1) := by decide +kernel
theorem dX12_windsNow_58 : decode cX12_windsNow 58 = .ok (.iastore, 1) := by decide +kernel
theorem dX12_windsNow_59 : decode cX12_windsNow 59 = .ok (.iload_n 3, 1) := by decide +kernel
theorem dX12_windsNow_60 : decode cX12_windsNow 60 = .ok (.ireturn, 1) := by decide +kernel
theorem dX12_winds_0 : decode cX12_winds 0 = .ok (.aload_n 0, 1) := by decide +kernel
theorem dX12_winds_1 : decode cX12_winds 1 = .ok (.iload_n 1, 1) := by decide +kernel
theorem dX12_winds_2 : decode cX12_winds 2 = .ok (.invokevirtual 129, 3) := by decide +kernel
theorem dX12_winds_5 : decode cX12_winds 5 = .ok (.ifCond .eq 11, 3) := by decide +kernel
theorem dX12_winds_8 : decode cX12_winds 8 = .ok (.aload_n 0, 1) := by decide +kernel
theorem dX12_winds_9 : decode cX12_winds 9 = .ok (.iload_n 1, 1) := by decide +kernel
theorem dX12_winds_10 : decode cX12_winds 10 = .ok (.invokevirtual 171, 3) := by decide +kernel
theorem dX12_winds_13 : decode cX12_winds 13 = .ok (.goto 5, 3) := by decide +kernel
theorem dX12_winds_16 : decode cX12_winds 16 = .ok (.bipush (-101), 2) := by decide +kernel
theorem dX12_winds_18 : decode cX12_winds 18 = .ok (.ireturn, 1) := by decide +kernel
theorem dX12_isTouch_0 : decode cX12_isTouch 0 = .ok (.aload_n 0, 1) := by decide +kernel
theorem dX12_isTouch_1 : decode cX12_isTouch 1 = .ok (.getfield 25, 3) := by decide +kernel
theorem dX12_isTouch_4 : decode cX12_isTouch 4 = .ok (.iload_n 2, 1) := by decide +kernel
theorem dX12_isTouch_5 : decode cX12_isTouch 5 = .ok (.iaload, 1) := by decide +kernel
theorem dX12_isTouch_6 : decode cX12_isTouch 6 = .ok (.istore_n 3, 1) := by decide +kernel
theorem dX12_isTouch_7 : decode cX12_isTouch 7 = .ok (.aload_n 0, 1) := by decide +kernel
theorem dX12_isTouch_8 : decode cX12_isTouch 8 = .ok (.getfield 25, 3) := by decide +kernel
theorem dX12_isTouch_11 : decode cX12_isTouch 11 = .ok (.iload_n 2, 1) := by decide +kernel
theorem dX12_isTouch_12 : decode cX12_isTouch 12 = .ok (.dup2, 1) := by decide +kernel
theorem dX12_isTouch_13 : decode cX12_isTouch 13 = .ok (.iaload, 1) := by decide +kernel
theorem dX12_isTouch_14 : decode cX12_isTouch 14 = .ok (.iconst 1, 1) := by decide +kernel
theorem dX12_isTouch_15 : decode cX12_isTouch 15 = .ok (.iload_n 1, 1) := by decide +kernel
theorem dX12_isTouch_16 : decode cX12_isTouch 16 = .ok (.ishl, 1) := by decide +kernel
theorem dX12_isTouch_17 : decode cX12_isTouch 17 = .ok (.ior, 1) := by decide +kernel
theorem dX12_isTouch_18 : decode cX12_isTouch 18 = .ok (.iastore, 1) := by decide +kernel
theorem dX12_isTouch_19 : decode cX12_isTouch 19 = .ok (.aload_n 0, 1) := by decide +kernel
theorem dX12_isTouch_20 : decode cX12_isTouch 20 = .ok (.iconst (-1), 1) := by decide +kernel
theorem dX12_isTouch_21 : decode cX12_isTouch 21 = .ok (.invokevirtual 168, 3) := by decide +kernel
theorem dX12_isTouch_24 : decode cX12_isTouch 24 = .ok (.istore 4, 2) := by decide +kernel
theorem dX12_isTouch_26 : decode cX12_isTouch 26 = .ok (.aload_n 0, 1) := by decide +kernel
theorem dX12_isTouch_27 : decode cX12_isTouch 27 = .ok (.getfield 25, 3) := by decide +kernel
theorem dX12_isTouch_30 : decode cX12_isTouch 30 = .ok (.iload_n 2, 1) := by decide +kernel
theorem dX12_isTouch_31 : decode cX12_isTouch 31 = .ok (.iload_n 3, 1) := by decide +kernel
theorem dX12_isTouch_32 : decode cX12_isTouch 32 = .ok (.iastore, 1) := by decide +kernel
theorem dX12_isTouch_33 : decode cX12_isTouch 33 = .ok (.iload 4, 2) := by decide +kernel
theorem dX12_isTouch_35 : decode cX12_isTouch 35 = .ok (.ireturn, 1) := by decide +kernel
theorem dX12_touchedNow_0 : decode cX12_touchedNow 0 = .ok (.iconst 0, 1) := by decide +kernel
theorem dX12_touchedNow_1 : decode cX12_touchedNow 1 = .ok (.istore_n 2, 1) := by decide +kernel
theorem dX12_touchedNow_2 : decode cX12_touchedNow 2 = .ok (.bipush (-2), 2) := by decide +kernel
theorem dX12_touchedNow_4 : decode cX12_touchedNow 4 = .ok (.istore_n 3, 1) := by decide +kernel
theorem dX12_touchedNow_5 : decode cX12_touchedNow 5 = .ok (.bipush 24, 2) := by decide +kernel
theorem dX12_touchedNow_7 : decode cX12_touchedNow 7 = .ok (.istore 4, 2) := by decide +kernel
theorem dX12_touchedNow_9 : decode cX12_touchedNow 9 = .ok (.iload 4, 2) := by decide +kernel
theorem dX12_touchedNow_11 : decode cX12_touchedNow 11 = .ok (.ifCond .lt 104, 3) := by decide +kernel
theorem dX12_touchedNow_14 : decode cX12_touchedNow 14 = .ok (.iload 4, 2) := by decide +kernel
theorem dX12_touchedNow_16 : decode cX12_touchedNow 16 = .ok (.iconst 5, 1) := by decide +kernel
theorem dX12_touchedNow_17 : decode cX12_touchedNow 17 = .ok (.idiv, 1) := by decide +kernel
theorem dX12_touchedNow_18 : decode cX12_touchedNow 18 = .ok (.istore 5, 2) := by decide +kernel
theorem dX12_touchedNow_20 : decode cX12_touchedNow 20 = .ok (.iload 4, 2) := by decide +kernel
theorem dX12_touchedNow_22 : decode cX12_touchedNow 22 = .ok (.iconst 5, 1) := by decide +kernel
theorem dX12_touchedNow_23 : decode cX12_touchedNow 23 = .ok (.irem, 1) := by decide +kernel
theorem dX12_touchedNow_24 : decode cX12_touchedNow 24 = .ok (.istore 6, 2) := by decide +kernel
theorem dX12_touchedNow_26 : decode cX12_touchedNow 26 = .ok (.aload_n 0, 1) := by decide +kernel
theorem dX12_touchedNow_27 : decode cX12_touchedNow 27 = .ok (.iload 5, 2) := by decide +kernel
theorem dX12_touchedNow_29 : decode cX12_touchedNow 29 = .ok (.invokevirtual 129, 3) := by decide +kernel
theorem dX12_touchedNow_32 : decode cX12_touchedNow 32 = .ok (.ifCond .eq 49, 3) := by decide +kernel
theorem dX12_touchedNow_35 : decode cX12_touchedNow 35 = .ok (.aload_n 0, 1) := by decide +kernel
theorem dX12_touchedNow_36 : decode cX12_touchedNow 36 = .ok (.iload 6, 2) := by decide +kernel
theorem dX12_touchedNow_38 : decode cX12_touchedNow 38 = .ok (.invokevirtual 129, 3) := by decide +kernel
theorem dX12_touchedNow_41 : decode cX12_touchedNow 41 = .ok (.ifCond .eq 40, 3) := by decide +kernel
theorem dX12_touchedNow_44 : decode cX12_touchedNow 44 = .ok (.iload 5, 2) := by decide +kernel
theorem dX12_touchedNow_46 : decode cX12_touchedNow 46 = .ok (.iload 6, 2) := by decide +kernel
theorem dX12_touchedNow_48 : decode cX12_touchedNow 48 = .ok (.if_icmp .eq 33, 3) := by decide +kernel
theorem dX12_touchedNow_51 : decode cX12_touchedNow 51 = .ok (.aload_n 0, 1) := by decide +kernel
theorem dX12_touchedNow_52 : decode cX12_touchedNow 52 = .ok (.getfield 25, 3) := by decide +kernel
theorem dX12_touchedNow_55 : decode cX12_touchedNow 55 = .ok (.iload 6, 2) := by decide +kernel
theorem dX12_touchedNow_57 : decode cX12_touchedNow 57 = .ok (.iaload, 1) := by decide +kernel
theorem dX12_touchedNow_58 : decode cX12_touchedNow 58 = .ok (.iload 5, 2) := by decide +kernel
theorem dX12_touchedNow_60 : decode cX12_touchedNow 60 = .ok (.invokestatic 104, 3) := by decide +kernel
theorem dX12_touchedNow_63 : decode cX12_touchedNow 63 = .ok (.ifCond .ne 18, 3) := by decide +kernel
theorem dX12_touchedNow_66 : decode cX12_touchedNow 66 = .ok (.aload_n 0, 1) := by decide +kernel
theorem dX12_touchedNow_67 : decode cX12_touchedNow 67 = .ok (.iload 5, 2) := by decide +kernel
theorem dX12_touchedNow_69 : decode cX12_touchedNow 69 = .ok (.iload 6, 2) := by decide +kernel
theorem dX12_touchedNow_71 : decode cX12_touchedNow 71 = .ok (.invokevirtual 174, 3) := by decide +kernel
theorem dX12_touchedNow_74 : decode cX12_touchedNow 74 = .ok (.ifCond .eq 7, 3) := by decide +kernel
theorem dX12_touchedNow_77 : decode cX12_touchedNow 77 = .ok (.iconst 1, 1) := by decide +kernel
theorem dX12_touchedNow_78 : decode cX12_touchedNow 78 = .ok (.goto 4, 3) := by decide +kernel
theorem dX12_touchedNow_81 : decode cX12_touchedNow 81 = .ok (.iconst 0, 1) := by decide +kernel
theorem dX12_touchedNow_82 : decode cX12_touchedNow 82 = .ok (.istore 7, 2) := by decide +kernel
theorem dX12_touchedNow_84 : decode cX12_touchedNow 84 = .ok (.iload_n 2, 1) := by decide +kernel
theorem dX12_touchedNow_85 : decode cX12_touchedNow 85 = .ok (.iload 7, 2) := by decide +kernel
theorem dX12_touchedNow_87 : decode cX12_touchedNow 87 = .ok (.ifCond .eq 7, 3) := by decide +kernel
theorem dX12_touchedNow_90 : decode cX12_touchedNow 90 = .ok (.iconst 1, 1) := by decide +kernel
theorem dX12_touchedNow_91 : decode cX12_touchedNow 91 = .ok (.goto 4, 3) := by decide +kernel
theorem dX12_touchedNow_94 : decode cX12_touchedNow 94 = .ok (.iconst 0, 1) := by decide +kernel
theorem dX12_touchedNow_95 : decode cX12_touchedNow 95 = .ok (.iadd, 1) := by decide +kernel
theorem dX12_touchedNow_96 : decode cX12_touchedNow 96 = .ok (.istore_n 2, 1) := by decide +kernel
theorem dX12_touchedNow_97 : decode cX12_touchedNow 97 = .ok (.iload 7, 2) := by decide +kernel
theorem dX12_touchedNow_99 : decode cX12_touchedNow 99 = .ok (.ifCond .eq 8, 3) := by decide +kernel
theorem dX12_touchedNow_102 : decode cX12_touchedNow 102 = .ok (.iload 4, 2) := by decide +kernel
theorem dX12_touchedNow_104 : decode cX12_touchedNow 104 = .ok (.goto 4, 3) := by decide +kernel
theorem dX12_touchedNow_107 : decode cX12_touchedNow 107 = .ok (.iload_n 3, 1) := by decide +kernel
theorem dX12_touchedNow_108 : decode cX12_touchedNow 108 = .ok (.istore_n 3, 1) := by decide +kernel
theorem dX12_touchedNow_109 : decode cX12_touchedNow 109 = .ok (.iinc 4 (-1), 3) := by decide +kernel
theorem dX12_touchedNow_112 : decode cX12_touchedNow 112 = .ok (.goto (-103), 3) := by decide +kernel
theorem dX12_touchedNow_115 : decode cX12_touchedNow 115 = .ok (.aload_n 0, 1) := by decide +kernel
theorem dX12_touchedNow_116 : decode cX12_touchedNow 116 = .ok (.iconst (-1), 1) := by decide +kernel
theorem dX12_touchedNow_117 : decode cX12_touchedNow 117 = .ok (.invokevirtual 168, 3) := by decide +kernel
theorem dX12_touchedNow_120 : decode cX12_touchedNow 120 = .ok (.istore 4, 2) := by decide +kernel
theorem dX12_touchedNow_122 : decode cX12_touchedNow 122 = .ok (.iload_n 1, 1) := by decide +kernel
theorem dX12_touchedNow_123 : decode cX12_touchedNow 123 = .ok (.ifCond .ne 18, 3) := by decide +kernel
theorem dX12_touchedNow_126 : decode cX12_touchedNow 126 = .ok (.iload_n 2, 1) := by decide +kernel
theorem dX12_touchedNow_127 : decode cX12_touchedNow 127 = .ok (.iload 4, 2) := by decide +kernel
theorem dX12_touchedNow_129 : decode cX12_touchedNow 129 = .ok (.ifCond .eq 7, 3) := by decide +kernel
theorem dX12_touchedNow_132 : decode cX12_touchedNow 132 = .ok (.iconst 1, 1) := by decide +kernel
theorem dX12_touchedNow_133 : decode cX12_touchedNow 133 = .ok (.goto 4, 3) := by decide +kernel
theorem dX12_touchedNow_136 : decode cX12_touchedNow 136 = .ok (.iconst 0, 1) := by decide +kernel
theorem dX12_touchedNow_137 : decode cX12_touchedNow 137 = .ok (.iadd, 1) := by decide +kernel
theorem dX12_touchedNow_138 : decode cX12_touchedNow 138 = .ok (.goto 13, 3) := by decide +kernel
theorem dX12_touchedNow_141 : decode cX12_touchedNow 141 = .ok (.iload 4, 2) := by decide +kernel
theorem dX12_touchedNow_143 : decode cX12_touchedNow 143 = .ok (.ifCond .eq 7, 3) := by decide +kernel
