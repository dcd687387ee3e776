theorem dX8_choiceInFirst_1 : decode cX8_choiceInFirst 1 = .ok (.getfield 51, 3) := by decide +kernel
theorem dX8_choiceInFirst_4 : decode cX8_choiceInFirst 4 = .ok (.ifCond .eq 11, 3) := by decide +kernel
theorem dX8_choiceInFirst_7 : decode cX8_choiceInFirst 7 = .ok (.iload_n 1, 1) := by decide +kernel
theorem dX8_choiceInFirst_8 : decode cX8_choiceInFirst 8 = .ok (.aload_n 0, 1) := by decide +kernel
theorem dX8_choiceInFirst_9 : decode cX8_choiceInFirst 9 = .ok (.getfield 39, 3) := by decide +kernel
theorem dX8_choiceInFirst_12 : decode cX8_choiceInFirst 12 = .ok (.if_icmp .lt 7, 3) := by decide +kernel
theorem dX8_choiceInFirst_15 : decode cX8_choiceInFirst 15 = .ok (.iconst (-1), 1) := by decide +kernel
theorem dX8_choiceInFirst_16 : decode cX8_choiceInFirst 16 = .ok (.goto 9, 3) := by decide +kernel
theorem dX8_choiceInFirst_19 : decode cX8_choiceInFirst 19 = .ok (.aload_n 0, 1) := by decide +kernel
theorem dX8_choiceInFirst_20 : decode cX8_choiceInFirst 20 = .ok (.getfield 24, 3) := by decide +kernel
theorem dX8_choiceInFirst_23 : decode cX8_choiceInFirst 23 = .ok (.iload_n 1, 1) := by decide +kernel
theorem dX8_choiceInFirst_24 : decode cX8_choiceInFirst 24 = .ok (.iaload, 1) := by decide +kernel
theorem dX8_choiceInFirst_25 : decode cX8_choiceInFirst 25 = .ok (.ireturn, 1) := by decide +kernel
theorem dX9_init_0 : decode cX9_init 0 = .ok (.aload_n 0, 1) := by decide +kernel
theorem dX9_init_1 : decode cX9_init 1 = .ok (.iload_n 1, 1) := by decide +kernel
theorem dX9_init_2 : decode cX9_init 2 = .ok (.iload_n 2, 1) := by decide +kernel
theorem dX9_init_3 : decode cX9_init 3 = .ok (.iload_n 3, 1) := by decide +kernel
theorem dX9_init_4 : decode cX9_init 4 = .ok (.invokespecial 1, 3) := by decide +kernel
theorem dX9_init_7 : decode cX9_init 7 = .ok (.return_, 1) := by decide +kernel
theorem dX9_kind_0 : decode cX9_kind 0 = .ok (.iconst 2, 1) := by decide +kernel
theorem dX9_kind_1 : decode cX9_kind 1 = .ok (.ireturn, 1) := by decide +kernel
theorem dX9_breathsOf_0 : decode cX9_breathsOf 0 = .ok (.iload_n 1, 1) := by decide +kernel
theorem dX9_breathsOf_1 : decode cX9_breathsOf 1 = .ok (.iconst 1, 1) := by decide +kernel
theorem dX9_breathsOf_2 : decode cX9_breathsOf 2 = .ok (.iadd, 1) := by decide +kernel
theorem dX9_breathsOf_3 : decode cX9_breathsOf 3 = .ok (.iconst 2, 1) := by decide +kernel
theorem dX9_breathsOf_4 : decode cX9_breathsOf 4 = .ok (.idiv, 1) := by decide +kernel
theorem dX9_breathsOf_5 : decode cX9_breathsOf 5 = .ok (.ireturn, 1) := by decide +kernel
theorem dX10_init_0 : decode cX10_init 0 = .ok (.aload_n 0, 1) := by decide +kernel
theorem dX10_init_1 : decode cX10_init 1 = .ok (.iload_n 1, 1) := by decide +kernel
theorem dX10_init_2 : decode cX10_init 2 = .ok (.iload_n 2, 1) := by decide +kernel
theorem dX10_init_3 : decode cX10_init 3 = .ok (.iload_n 3, 1) := by decide +kernel
theorem dX10_init_4 : decode cX10_init 4 = .ok (.invokespecial 1, 3) := by decide +kernel
theorem dX10_init_7 : decode cX10_init 7 = .ok (.return_, 1) := by decide +kernel
theorem dX10_kind_0 : decode cX10_kind 0 = .ok (.iconst 1, 1) := by decide +kernel
theorem dX10_kind_1 : decode cX10_kind 1 = .ok (.ireturn, 1) := by decide +kernel
theorem dX10_breathsOf_0 : decode cX10_breathsOf 0 = .ok (.iconst 2, 1) := by decide +kernel
theorem dX10_breathsOf_1 : decode cX10_breathsOf 1 = .ok (.iload_n 1, 1) := by decide +kernel
theorem dX10_breathsOf_2 : decode cX10_breathsOf 2 = .ok (.imul, 1) := by decide +kernel
theorem dX10_breathsOf_3 : decode cX10_breathsOf 3 = .ok (.ireturn, 1) := by decide +kernel
theorem dX11_init_0 : decode cX11_init 0 = .ok (.aload_n 0, 1) := by decide +kernel
theorem dX11_init_1 : decode cX11_init 1 = .ok (.invokespecial 1, 3) := by decide +kernel
theorem dX11_init_4 : decode cX11_init 4 = .ok (.aload_n 0, 1) := by decide +kernel
theorem dX11_init_5 : decode cX11_init 5 = .ok (.new 7, 3) := by decide +kernel
theorem dX11_init_8 : decode cX11_init 8 = .ok (.dup, 1) := by decide +kernel
theorem dX11_init_9 : decode cX11_init 9 = .ok (.invokespecial 9, 3) := by decide +kernel
theorem dX11_init_12 : decode cX11_init 12 = .ok (.putfield 10, 3) := by decide +kernel
theorem dX11_init_15 : decode cX11_init 15 = .ok (.aload_n 0, 1) := by decide +kernel
theorem dX11_init_16 : decode cX11_init 16 = .ok (.new 16, 3) := by decide +kernel
theorem dX11_init_19 : decode cX11_init 19 = .ok (.dup, 1) := by decide +kernel
theorem dX11_init_20 : decode cX11_init 20 = .ok (.invokespecial 18, 3) := by decide +kernel
theorem dX11_init_23 : decode cX11_init 23 = .ok (.putfield 19, 3) := by decide +kernel
theorem dX11_init_26 : decode cX11_init 26 = .ok (.aload_n 0, 1) := by decide +kernel
theorem dX11_init_27 : decode cX11_init 27 = .ok (.aload_n 0, 1) := by decide +kernel
theorem dX11_init_28 : decode cX11_init 28 = .ok (.getfield 19, 3) := by decide +kernel
theorem dX11_init_31 : decode cX11_init 31 = .ok (.getfield 23, 3) := by decide +kernel
theorem dX11_init_34 : decode cX11_init 34 = .ok (.putfield 27, 3) := by decide +kernel
theorem dX11_init_37 : decode cX11_init 37 = .ok (.aload_n 0, 1) := by decide +kernel
theorem dX11_init_38 : decode cX11_init 38 = .ok (.new 28, 3) := by decide +kernel
theorem dX11_init_41 : decode cX11_init 41 = .ok (.dup, 1) := by decide +kernel
theorem dX11_init_42 : decode cX11_init 42 = .ok (.invokespecial 30, 3) := by decide +kernel
theorem dX11_init_45 : decode cX11_init 45 = .ok (.putfield 31, 3) := by decide +kernel
theorem dX11_init_48 : decode cX11_init 48 = .ok (.aload_n 0, 1) := by decide +kernel
theorem dX11_init_49 : decode cX11_init 49 = .ok (.new 35, 3) := by decide +kernel
theorem dX11_init_52 : decode cX11_init 52 = .ok (.dup, 1) := by decide +kernel
theorem dX11_init_53 : decode cX11_init 53 = .ok (.invokespecial 37, 3) := by decide +kernel
theorem dX11_init_56 : decode cX11_init 56 = .ok (.putfield 38, 3) := by decide +kernel
theorem dX11_init_59 : decode cX11_init 59 = .ok (.aload_n 0, 1) := by decide +kernel
theorem dX11_init_60 : decode cX11_init 60 = .ok (.new 42, 3) := by decide +kernel
theorem dX11_init_63 : decode cX11_init 63 = .ok (.dup, 1) := by decide +kernel
theorem dX11_init_64 : decode cX11_init 64 = .ok (.invokespecial 44, 3) := by decide +kernel
theorem dX11_init_67 : decode cX11_init 67 = .ok (.putfield 45, 3) := by decide +kernel
theorem dX11_init_70 : decode cX11_init 70 = .ok (.return_, 1) := by decide +kernel
theorem dX11_letter_0 : decode cX11_letter 0 = .ok (.iload_n 1, 1) := by decide +kernel
theorem dX11_letter_1 : decode cX11_letter 1 = .ok (.bipush 32, 2) := by decide +kernel
theorem dX11_letter_3 : decode cX11_letter 3 = .ok (.if_icmp .lt 9, 3) := by decide +kernel
theorem dX11_letter_6 : decode cX11_letter 6 = .ok (.iload_n 1, 1) := by decide +kernel
theorem dX11_letter_7 : decode cX11_letter 7 = .ok (.bipush 126, 2) := by decide +kernel
theorem dX11_letter_9 : decode cX11_letter 9 = .ok (.if_icmp .le 6, 3) := by decide +kernel
theorem dX11_letter_12 : decode cX11_letter 12 = .ok (.bipush (-102), 2) := by decide +kernel
theorem dX11_letter_14 : decode cX11_letter 14 = .ok (.ireturn, 1) := by decide +kernel
theorem dX11_letter_15 : decode cX11_letter 15 = .ok (.aload_n 0, 1) := by decide +kernel
theorem dX11_letter_16 : decode cX11_letter 16 = .ok (.getfield 10, 3) := by decide +kernel
theorem dX11_letter_19 : decode cX11_letter 19 = .ok (.invokevirtual 49, 3) := by decide +kernel
theorem dX11_letter_22 : decode cX11_letter 22 = .ok (.ifCond .eq 6, 3) := by decide +kernel
theorem dX11_letter_25 : decode cX11_letter 25 = .ok (.bipush (-104), 2) := by decide +kernel
theorem dX11_letter_27 : decode cX11_letter 27 = .ok (.ireturn, 1) := by decide +kernel
theorem dX11_letter_28 : decode cX11_letter 28 = .ok (.aload_n 0, 1) := by decide +kernel
theorem dX11_letter_29 : decode cX11_letter 29 = .ok (.getfield 10, 3) := by decide +kernel
theorem dX11_letter_32 : decode cX11_letter 32 = .ok (.iload_n 1, 1) := by decide +kernel
theorem dX11_letter_33 : decode cX11_letter 33 = .ok (.invokevirtual 53, 3) := by decide +kernel
theorem dX11_letter_36 : decode cX11_letter 36 = .ok (.aload_n 0, 1) := by decide +kernel
theorem dX11_letter_37 : decode cX11_letter 37 = .ok (.getfield 10, 3) := by decide +kernel
theorem dX11_letter_40 : decode cX11_letter 40 = .ok (.getfield 57, 3) := by decide +kernel
theorem dX11_letter_43 : decode cX11_letter 43 = .ok (.ireturn, 1) := by decide +kernel
theorem dX11_blank_0 : decode cX11_blank 0 = .ok (.aload_n 0, 1) := by decide +kernel
theorem dX11_blank_1 : decode cX11_blank 1 = .ok (.getfield 10, 3) := by decide +kernel
theorem dX11_blank_4 : decode cX11_blank 4 = .ok (.getfield 57, 3) := by decide +kernel
theorem dX11_blank_7 : decode cX11_blank 7 = .ok (.istore_n 1, 1) := by decide +kernel
theorem dX11_blank_8 : decode cX11_blank 8 = .ok (.aload_n 0, 1) := by decide +kernel
theorem dX11_blank_9 : decode cX11_blank 9 = .ok (.getfield 10, 3) := by decide +kernel
theorem dX11_blank_12 : decode cX11_blank 12 = .ok (.iconst 0, 1) := by decide +kernel
theorem dX11_blank_13 : decode cX11_blank 13 = .ok (.putfield 57, 3) := by decide +kernel
theorem dX11_blank_16 : decode cX11_blank 16 = .ok (.iload_n 1, 1) := by decide +kernel
theorem dX11_blank_17 : decode cX11_blank 17 = .ok (.ireturn, 1) := by decide +kernel
theorem dX11_fault_0 : decode cX11_fault 0 = .ok (.aload_n 0, 1) := by decide +kernel
theorem dX11_fault_1 : decode cX11_fault 1 = .ok (.getfield 10, 3) := by decide +kernel
theorem dX11_fault_4 : decode cX11_fault 4 = .ok (.invokevirtual 61, 3) := by decide +kernel
theorem dX11_fault_7 : decode cX11_fault 7 = .ok (.ireturn, 1) := by decide +kernel
theorem dX11_hall_0 : decode cX11_hall 0 = .ok (.aload_n 0, 1) := by decide +kernel
theorem dX11_hall_1 : decode cX11_hall 1 = .ok (.getfield 10, 3) := by decide +kernel
theorem dX11_hall_4 : decode cX11_hall 4 = .ok (.invokevirtual 65, 3) := by decide +kernel
theorem dX11_hall_7 : decode cX11_hall 7 = .ok (.ifCond .ne 6, 3) := by decide +kernel
theorem dX11_hall_10 : decode cX11_hall 10 = .ok (.bipush (-103), 2) := by decide +kernel
theorem dX11_hall_12 : decode cX11_hall 12 = .ok (.ireturn, 1) := by decide +kernel
theorem dX11_hall_13 : decode cX11_hall 13 = .ok (.aload_n 0, 1) := by decide +kernel
theorem dX11_hall_14 : decode cX11_hall 14 = .ok (.getfield 10, 3) := by decide +kernel
theorem dX11_hall_17 : decode cX11_hall 17 = .ok (.aload_n 0, 1) := by decide +kernel
theorem dX11_hall_18 : decode cX11_hall 18 = .ok (.getfield 27, 3) := by decide +kernel
theorem dX11_hall_21 : decode cX11_hall 21 = .ok (.invokevirtual 68, 3) := by decide +kernel
theorem dX11_hall_24 : decode cX11_hall 24 = .ok (.aload_n 0, 1) := by decide +kernel
theorem dX11_hall_25 : decode cX11_hall 25 = .ok (.getfield 10, 3) := by decide +kernel
theorem dX11_hall_28 : decode cX11_hall 28 = .ok (.iconst 0, 1) := by decide +kernel
theorem dX11_hall_29 : decode cX11_hall 29 = .ok (.putfield 57, 3) := by decide +kernel
theorem dX11_hall_32 : decode cX11_hall 32 = .ok (.aload_n 0, 1) := by decide +kernel
theorem dX11_hall_33 : decode cX11_hall 33 = .ok (.getfield 31, 3) := by decide +kernel
theorem dX11_hall_36 : decode cX11_hall 36 = .ok (.iconst 0, 1) := by decide +kernel
theorem dX11_hall_37 : decode cX11_hall 37 = .ok (.putfield 72, 3) := by decide +kernel
theorem dX11_hall_40 : decode cX11_hall 40 = .ok (.aload_n 0, 1) := by decide +kernel
theorem dX11_hall_41 : decode cX11_hall 41 = .ok (.dup, 1) := by decide +kernel
theorem dX11_hall_42 : decode cX11_hall 42 = .ok (.getfield 75, 3) := by decide +kernel
theorem dX11_hall_45 : decode cX11_hall 45 = .ok (.iconst 1, 1) := by decide +kernel
theorem dX11_hall_46 : decode cX11_hall 46 = .ok (.iadd, 1) := by decide +kernel
theorem dX11_hall_47 : decode cX11_hall 47 = .ok (.putfield 75, 3) := by decide +kernel
theorem dX11_hall_50 : decode cX11_hall 50 = .ok (.aload_n 0, 1) := by decide +kernel
theorem dX11_hall_51 : decode cX11_hall 51 = .ok (.getfield 27, 3) := by decide +kernel
theorem dX11_hall_54 : decode cX11_hall 54 = .ok (.getfield 78, 3) := by decide +kernel
theorem dX11_hall_57 : decode cX11_hall 57 = .ok (.ireturn, 1) := by decide +kernel
theorem dX11_about_0 : decode cX11_about 0 = .ok (.aload_n 0, 1) := by decide +kernel
theorem dX11_about_1 : decode cX11_about 1 = .ok (.getfield 27, 3) := by decide +kernel
theorem dX11_about_4 : decode cX11_about 4 = .ok (.iload_n 1, 1) := by decide +kernel
theorem dX11_about_5 : decode cX11_about 5 = .ok (.invokevirtual 81, 3) := by decide +kernel
theorem dX11_about_8 : decode cX11_about 8 = .ok (.ifCond .ne 6, 3) := by decide +kernel
theorem dX11_about_11 : decode cX11_about 11 = .ok (.bipush (-101), 2) := by decide +kernel
theorem dX11_about_13 : decode cX11_about 13 = .ok (.ireturn, 1) := by decide +kernel
theorem dX11_about_14 : decode cX11_about 14 = .ok (.iload_n 2, 1) := by decide +kernel
theorem dX11_about_15 : decode cX11_about 15 = .ok (.ifCond .lt 9, 3) := by decide +kernel
theorem dX11_about_18 : decode cX11_about 18 = .ok (.iload_n 2, 1) := by decide +kernel
theorem dX11_about_19 : decode cX11_about 19 = .ok (.bipush 9, 2) := by decide +kernel
theorem dX11_about_21 : decode cX11_about 21 = .ok (.if_icmp .le 6, 3) := by decide +kernel
theorem dX11_about_24 : decode cX11_about 24 = .ok (.bipush (-102), 2) := by decide +kernel
theorem dX11_about_26 : decode cX11_about 26 = .ok (.ireturn, 1) := by decide +kernel
theorem dX11_about_27 : decode cX11_about 27 = .ok (.iload_n 2, 1) := by decide +kernel
theorem dX11_about_28 : decode cX11_about 28 = .ok (.iconst 5, 1) := by decide +kernel
theorem dX11_about_29 : decode cX11_about 29 = .ok (.if_icmp .lt 16, 3) := by decide +kernel
theorem dX11_about_32 : decode cX11_about 32 = .ok (.iload_n 2, 1) := by decide +kernel
theorem dX11_about_33 : decode cX11_about 33 = .ok (.bipush 8, 2) := by decide +kernel
theorem dX11_about_35 : decode cX11_about 35 = .ok (.if_icmp .gt 10, 3) := by decide +kernel
theorem dX11_about_38 : decode cX11_about 38 = .ok (.aload_n 0, 1) := by decide +kernel
theorem dX11_about_39 : decode cX11_about 39 = .ok (.getfield 19, 3) := by decide +kernel
theorem dX11_about_42 : decode cX11_about 42 = .ok (.invokevirtual 85, 3) := by decide +kernel
theorem dX11_about_45 : decode cX11_about 45 = .ok (.aload_n 0, 1) := by decide +kernel
theorem dX11_about_46 : decode cX11_about 46 = .ok (.getfield 27, 3) := by decide +kernel
theorem dX11_about_49 : decode cX11_about 49 = .ok (.getfield 88, 3) := by decide +kernel
theorem dX11_about_52 : decode cX11_about 52 = .ok (.iload_n 1, 1) := by decide +kernel
theorem dX11_about_53 : decode cX11_about 53 = .ok (.aaload, 1) := by decide +kernel
theorem dX11_about_54 : decode cX11_about 54 = .ok (.astore_n 3, 1) := by decide +kernel
theorem dX11_about_55 : decode cX11_about 55 = .ok (.iload_n 2, 1) := by decide +kernel
theorem dX11_about_56 : decode cX11_about 56 = .ok (.tableswitch 115 0 8 #[52, 57, 62, 67, 72, 77, 87, 97, 106], 52) := by decide +kernel
theorem dX11_about_108 : decode cX11_about 108 = .ok (.aload_n 3, 1) := by decide +kernel
theorem dX11_about_109 : decode cX11_about 109 = .ok (.invokevirtual 92, 3) := by decide +kernel
theorem dX11_about_112 : decode cX11_about 112 = .ok (.ireturn, 1) := by decide +kernel
theorem dX11_about_113 : decode cX11_about 113 = .ok (.aload_n 3, 1) := by decide +kernel
theorem dX11_about_114 : decode cX11_about 114 = .ok (.getfield 97, 3) := by decide +kernel
theorem dX11_about_117 : decode cX11_about 117 = .ok (.ireturn, 1) := by decide +kernel
theorem dX11_about_118 : decode cX11_about 118 = .ok (.aload_n 3, 1) := by decide +kernel
theorem dX11_about_119 : decode cX11_about 119 = .ok (.getfield 100, 3) := by decide +kernel
theorem dX11_about_122 : decode cX11_about 122 = .ok (.ireturn, 1) := by decide +kernel
theorem dX11_about_123 : decode cX11_about 123 = .ok (.aload_n 3, 1) := by decide +kernel
theorem dX11_about_124 : decode cX11_about 124 = .ok (.getfield 103, 3) := by decide +kernel
theorem dX11_about_127 : decode cX11_about 127 = .ok (.ireturn, 1) := by decide +kernel
theorem dX11_about_128 : decode cX11_about 128 = .ok (.aload_n 3, 1) := by decide +kernel
theorem dX11_about_129 : decode cX11_about 129 = .ok (.getfield 106, 3) := by decide +kernel
theorem dX11_about_132 : decode cX11_about 132 = .ok (.ireturn, 1) := by decide +kernel
theorem dX11_about_133 : decode cX11_about 133 = .ok (.aload_n 0, 1) := by decide +kernel
theorem dX11_about_134 : decode cX11_about 134 = .ok (.getfield 19, 3) := by decide +kernel
theorem dX11_about_137 : decode cX11_about 137 = .ok (.getfield 109, 3) := by decide +kernel
theorem dX11_about_140 : decode cX11_about 140 = .ok (.iload_n 1, 1) := by decide +kernel
theorem dX11_about_141 : decode cX11_about 141 = .ok (.iaload, 1) := by decide +kernel
theorem dX11_about_142 : decode cX11_about 142 = .ok (.ireturn, 1) := by decide +kernel
theorem dX11_about_143 : decode cX11_about 143 = .ok (.aload_n 0, 1) := by decide +kernel
theorem dX11_about_144 : decode cX11_about 144 = .ok (.getfield 19, 3) := by decide +kernel
theorem dX11_about_147 : decode cX11_about 147 = .ok (.getfield 113, 3) := by decide +kernel
theorem dX11_about_150 : decode cX11_about 150 = .ok (.iload_n 1, 1) := by decide +kernel
theorem dX11_about_151 : decode cX11_about 151 = .ok (.iaload, 1) := by decide +kernel
theorem dX11_about_152 : decode cX11_about 152 = .ok (.ireturn, 1) := by decide +kernel
theorem dX11_about_153 : decode cX11_about 153 = .ok (.aload_n 0, 1) := by decide +kernel
theorem dX11_about_154 : decode cX11_about 154 = .ok (.getfield 19, 3) := by decide +kernel
theorem dX11_about_157 : decode cX11_about 157 = .ok (.iload_n 1, 1) := by decide +kernel
theorem dX11_about_158 : decode cX11_about 158 = .ok (.invokevirtual 116, 3) := by decide +kernel
theorem dX11_about_161 : decode cX11_about 161 = .ok (.ireturn, 1) := by decide +kernel
theorem dX11_about_162 : decode cX11_about 162 = .ok (.aload_n 0, 1) := by decide +kernel
theorem dX11_about_163 : decode cX11_about 163 = .ok (.getfield 19, 3) := by decide +kernel
theorem dX11_about_166 : decode cX11_about 166 = .ok (.iload_n 1, 1) := by decide +kernel
theorem dX11_about_167 : decode cX11_about 167 = .ok (.invokevirtual 120, 3) := by decide +kernel
theorem dX11_about_170 : decode cX11_about 170 = .ok (.ireturn, 1) := by decide +kernel
theorem dX11_about_171 : decode cX11_about 171 = .ok (.aload_n 3, 1) := by decide +kernel
theorem dX11_about_172 : decode cX11_about 172 = .ok (.getfield 123, 3) := by decide +kernel
theorem dX11_about_175 : decode cX11_about 175 = .ok (.ireturn, 1) := by decide +kernel
theorem dX11_as_0 : decode cX11_as 0 = .ok (.aload_n 0, 1) := by decide +kernel
theorem dX11_as_1 : decode cX11_as 1 = .ok (.getfield 27, 3) := by decide +kernel
theorem dX11_as_4 : decode cX11_as 4 = .ok (.iload_n 1, 1) := by decide +kernel
theorem dX11_as_5 : decode cX11_as 5 = .ok (.invokevirtual 81, 3) := by decide +kernel
theorem dX11_as_8 : decode cX11_as 8 = .ok (.ifCond .ne 6, 3) := by decide +kernel
theorem dX11_as_11 : decode cX11_as 11 = .ok (.bipush (-101), 2) := by decide +kernel
theorem dX11_as_13 : decode cX11_as 13 = .ok (.ireturn, 1) := by decide +kernel
theorem dX11_as_14 : decode cX11_as 14 = .ok (.iload_n 2, 1) := by decide +kernel
theorem dX11_as_15 : decode cX11_as 15 = .ok (.ifCond .lt 8, 3) := by decide +kernel
theorem dX11_as_18 : decode cX11_as 18 = .ok (.iload_n 2, 1) := by decide +kernel
theorem dX11_as_19 : decode cX11_as 19 = .ok (.iconst 4, 1) := by decide +kernel
theorem dX11_as_20 : decode cX11_as 20 = .ok (.if_icmp .le 6, 3) := by decide +kernel
theorem dX11_as_23 : decode cX11_as 23 = .ok (.bipush (-102), 2) := by decide +kernel
theorem dX11_as_25 : decode cX11_as 25 = .ok (.ireturn, 1) := by decide +kernel
theorem dX11_as_26 : decode cX11_as 26 = .ok (.aload_n 0, 1) := by decide +kernel
theorem dX11_as_27 : decode cX11_as 27 = .ok (.getfield 27, 3) := by decide +kernel
theorem dX11_as_30 : decode cX11_as 30 = .ok (.getfield 88, 3) := by decide +kernel
theorem dX11_as_33 : decode cX11_as 33 = .ok (.iload_n 1, 1) := by decide +kernel
theorem dX11_as_34 : decode cX11_as 34 = .ok (.aaload, 1) := by decide +kernel
theorem dX11_as_35 : decode cX11_as 35 = .ok (.iload_n 2, 1) := by decide +kernel
theorem dX11_as_36 : decode cX11_as 36 = .ok (.invokestatic 126, 3) := by decide +kernel
theorem dX11_as_39 : decode cX11_as 39 = .ok (.ifCond .eq 7, 3) := by decide +kernel
theorem dX11_as_42 : decode cX11_as 42 = .ok (.iload_n 1, 1) := by decide +kernel
theorem dX11_as_43 : decode cX11_as 43 = .ok (.goto 4, 3) := by decide +kernel
theorem dX11_as_46 : decode cX11_as 46 = .ok (.iconst (-1), 1) := by decide +kernel
theorem dX11_as_47 : decode cX11_as 47 = .ok (.ireturn, 1) := by decide +kernel
theorem dX11_isOfKind_0 : decode cX11_isOfKind 0 = .ok (.iload_n 1, 1) := by decide +kernel
theorem dX11_isOfKind_1 : decode cX11_isOfKind 1 = .ok (.tableswitch 51 1 4 #[31, 36, 41, 46], 31) := by decide +kernel
theorem dX11_isOfKind_32 : decode cX11_isOfKind 32 = .ok (.aload_n 0, 1) := by decide +kernel
theorem dX11_isOfKind_33 : decode cX11_isOfKind 33 = .ok (.instanceof 130, 3) := by decide +kernel
theorem dX11_isOfKind_36 : decode cX11_isOfKind 36 = .ok (.ireturn, 1) := by decide +kernel
theorem dX11_isOfKind_37 : decode cX11_isOfKind 37 = .ok (.aload_n 0, 1) := by decide +kernel
theorem dX11_isOfKind_38 : decode cX11_isOfKind 38 = .ok (.instanceof 132, 3) := by decide +kernel
theorem dX11_isOfKind_41 : decode cX11_isOfKind 41 = .ok (.ireturn, 1) := by decide +kernel
theorem dX11_isOfKind_42 : decode cX11_isOfKind 42 = .ok (.aload_n 0, 1) := by decide +kernel
theorem dX11_isOfKind_43 : decode cX11_isOfKind 43 = .ok (.instanceof 134, 3) := by decide +kernel
theorem dX11_isOfKind_46 : decode cX11_isOfKind 46 = .ok (.ireturn, 1) := by decide +kernel
theorem dX11_isOfKind_47 : decode cX11_isOfKind 47 = .ok (.aload_n 0, 1) := by decide +kernel
theorem dX11_isOfKind_48 : decode cX11_isOfKind 48 = .ok (.instanceof 136, 3) := by decide +kernel
theorem dX11_isOfKind_51 : decode cX11_isOfKind 51 = .ok (.ireturn, 1) := by decide +kernel
theorem dX11_isOfKind_52 : decode cX11_isOfKind 52 = .ok (.iconst 1, 1) := by decide +kernel
theorem dX11_isOfKind_53 : decode cX11_isOfKind 53 = .ok (.ireturn, 1) := by decide +kernel
theorem dX11_choose_0 : decode cX11_choose 0 = .ok (.aload_n 0, 1) := by decide +kernel
theorem dX11_choose_1 : decode cX11_choose 1 = .ok (.getfield 27, 3) := by decide +kernel
theorem dX11_choose_4 : decode cX11_choose 4 = .ok (.iload_n 1, 1) := by decide +kernel
theorem dX11_choose_5 : decode cX11_choose 5 = .ok (.invokevirtual 81, 3) := by decide +kernel
theorem dX11_choose_8 : decode cX11_choose 8 = .ok (.ifCond .ne 6, 3) := by decide +kernel
theorem dX11_choose_11 : decode cX11_choose 11 = .ok (.bipush (-101), 2) := by decide +kernel
theorem dX11_choose_13 : decode cX11_choose 13 = .ok (.ireturn, 1) := by decide +kernel
theorem dX11_choose_14 : decode cX11_choose 14 = .ok (.iload_n 2, 1) := by decide +kernel
theorem dX11_choose_15 : decode cX11_choose 15 = .ok (.iconst (-1), 1) := by decide +kernel
theorem dX11_choose_16 : decode cX11_choose 16 = .ok (.if_icmp .eq 17, 3) := by decide +kernel
theorem dX11_choose_19 : decode cX11_choose 19 = .ok (.iload_n 2, 1) := by decide +kernel
theorem dX11_choose_20 : decode cX11_choose 20 = .ok (.iconst 1, 1) := by decide +kernel
theorem dX11_choose_21 : decode cX11_choose 21 = .ok (.if_icmp .lt 9, 3) := by decide +kernel
theorem dX11_choose_24 : decode cX11_choose 24 = .ok (.iload_n 2, 1) := by decide +kernel
theorem dX11_choose_25 : decode cX11_choose 25 = .ok (.bipush 30, 2) := by decide +kernel
theorem dX11_choose_27 : decode cX11_choose 27 = .ok (.if_icmp .le 6, 3) := by decide +kernel
theorem dX11_choose_30 : decode cX11_choose 30 = .ok (.bipush (-102), 2) := by decide +kernel
theorem dX11_choose_32 : decode cX11_choose 32 = .ok (.ireturn, 1) := by decide +kernel
theorem dX11_choose_33 : decode cX11_choose 33 = .ok (.aload_n 0, 1) := by decide +kernel
theorem dX11_choose_34 : decode cX11_choose 34 = .ok (.getfield 27, 3) := by decide +kernel
theorem dX11_choose_37 : decode cX11_choose 37 = .ok (.getfield 88, 3) := by decide +kernel
theorem dX11_choose_40 : decode cX11_choose 40 = .ok (.iload_n 1, 1) := by decide +kernel
theorem dX11_choose_41 : decode cX11_choose 41 = .ok (.aaload, 1) := by decide +kernel
theorem dX11_choose_42 : decode cX11_choose 42 = .ok (.astore_n 3, 1) := by decide +kernel
theorem dX11_choose_43 : decode cX11_choose 43 = .ok (.aload_n 3, 1) := by decide +kernel
theorem dX11_choose_44 : decode cX11_choose 44 = .ok (.getfield 106, 3) := by decide +kernel
theorem dX11_choose_47 : decode cX11_choose 47 = .ok (.istore 4, 2) := by decide +kernel
theorem dX11_choose_49 : decode cX11_choose 49 = .ok (.aload_n 3, 1) := by decide +kernel
theorem dX11_choose_50 : decode cX11_choose 50 = .ok (.iload_n 2, 1) := by decide +kernel
theorem dX11_choose_51 : decode cX11_choose 51 = .ok (.putfield 106, 3) := by decide +kernel
theorem dX11_choose_54 : decode cX11_choose 54 = .ok (.iload 4, 2) := by decide +kernel
theorem dX11_choose_56 : decode cX11_choose 56 = .ok (.ireturn, 1) := by decide +kernel
theorem dX11_wind_0 : decode cX11_wind 0 = .ok (.aload_n 0, 1) := by decide +kernel
theorem dX11_wind_1 : decode cX11_wind 1 = .ok (.getfield 27, 3) := by decide +kernel
theorem dX11_wind_4 : decode cX11_wind 4 = .ok (.iload_n 1, 1) := by decide +kernel
theorem dX11_wind_5 : decode cX11_wind 5 = .ok (.invokevirtual 81, 3) := by decide +kernel
theorem dX11_wind_8 : decode cX11_wind 8 = .ok (.ifCond .ne 6, 3) := by decide +kernel
theorem dX11_wind_11 : decode cX11_wind 11 = .ok (.bipush (-101), 2) := by decide +kernel
theorem dX11_wind_13 : decode cX11_wind 13 = .ok (.ireturn, 1) := by decide +kernel
theorem dX11_wind_14 : decode cX11_wind 14 = .ok (.iload_n 2, 1) := by decide +kernel
theorem dX11_wind_15 : decode cX11_wind 15 = .ok (.iconst 1, 1) := by decide +kernel
theorem dX11_wind_16 : decode cX11_wind 16 = .ok (.if_icmp .lt 9, 3) := by decide +kernel
theorem dX11_wind_19 : decode cX11_wind 19 = .ok (.iload_n 2, 1) := by decide +kernel
theorem dX11_wind_20 : decode cX11_wind 20 = .ok (.bipush 9, 2) := by decide +kernel
theorem dX11_wind_22 : decode cX11_wind 22 = .ok (.if_icmp .le 6, 3) := by decide +kernel
theorem dX11_wind_25 : decode cX11_wind 25 = .ok (.bipush (-102), 2) := by decide +kernel
theorem dX11_wind_27 : decode cX11_wind 27 = .ok (.ireturn, 1) := by decide +kernel
theorem dX11_wind_28 : decode cX11_wind 28 = .ok (.aload_n 0, 1) := by decide +kernel
theorem dX11_wind_29 : decode cX11_wind 29 = .ok (.getfield 27, 3) := by decide +kernel
theorem dX11_wind_32 : decode cX11_wind 32 = .ok (.getfield 88, 3) := by decide +kernel
theorem dX11_wind_35 : decode cX11_wind 35 = .ok (.iload_n 1, 1) := by decide +kernel
theorem dX11_wind_36 : decode cX11_wind 36 = .ok (.aaload, 1) := by decide +kernel
theorem dX11_wind_37 : decode cX11_wind 37 = .ok (.astore_n 3, 1) := by decide +kernel
theorem dX11_wind_38 : decode cX11_wind 38 = .ok (.aload_n 3, 1) := by decide +kernel
theorem dX11_wind_39 : decode cX11_wind 39 = .ok (.getfield 97, 3) := by decide +kernel
theorem dX11_wind_42 : decode cX11_wind 42 = .ok (.istore 4, 2) := by decide +kernel
theorem dX11_wind_44 : decode cX11_wind 44 = .ok (.aload_n 3, 1) := by decide +kernel
theorem dX11_wind_45 : decode cX11_wind 45 = .ok (.iload_n 2, 1) := by decide +kernel
theorem dX11_wind_46 : decode cX11_wind 46 = .ok (.putfield 97, 3) := by decide +kernel
theorem dX11_wind_49 : decode cX11_wind 49 = .ok (.iload 4, 2) := by decide +kernel
theorem dX11_wind_51 : decode cX11_wind 51 = .ok (.ireturn, 1) := by decide +kernel
theorem dX11_touch_0 : decode cX11_touch 0 = .ok (.aload_n 0, 1) := by decide +kernel
theorem dX11_touch_1 : decode cX11_touch 1 = .ok (.getfield 27, 3) := by decide +kernel
theorem dX11_touch_4 : decode cX11_touch 4 = .ok (.iload_n 1, 1) := by decide +kernel
theorem dX11_touch_5 : decode cX11_touch 5 = .ok (.invokevirtual 81, 3) := by decide +kernel
theorem dX11_touch_8 : decode cX11_touch 8 = .ok (.ifCond .eq 19, 3) := by decide +kernel
theorem dX11_touch_11 : decode cX11_touch 11 = .ok (.aload_n 0, 1) := by decide +kernel
theorem dX11_touch_12 : decode cX11_touch 12 = .ok (.getfield 27, 3) := by decide +kernel
theorem dX11_touch_15 : decode cX11_touch 15 = .ok (.iload_n 2, 1) := by decide +kernel
theorem dX11_touch_16 : decode cX11_touch 16 = .ok (.invokevirtual 81, 3) := by decide +kernel
theorem dX11_touch_19 : decode cX11_touch 19 = .ok (.ifCond .eq 8, 3) := by decide +kernel
theorem dX11_touch_22 : decode cX11_touch 22 = .ok (.iload_n 1, 1) := by decide +kernel
theorem dX11_touch_23 : decode cX11_touch 23 = .ok (.iload_n 2, 1) := by decide +kernel
theorem dX11_touch_24 : decode cX11_touch 24 = .ok (.if_icmp .ne 6, 3) := by decide +kernel
theorem dX11_touch_27 : decode cX11_touch 27 = .ok (.bipush (-101), 2) := by decide +kernel
theorem dX11_touch_29 : decode cX11_touch 29 = .ok (.ireturn, 1) := by decide +kernel
theorem dX11_touch_30 : decode cX11_touch 30 = .ok (.aload_n 0, 1) := by decide +kernel
theorem dX11_touch_31 : decode cX11_touch 31 = .ok (.getfield 27, 3) := by decide +kernel
theorem dX11_touch_34 : decode cX11_touch 34 = .ok (.getfield 88, 3) := by decide +kernel
theorem dX11_touch_37 : decode cX11_touch 37 = .ok (.iload_n 2, 1) := by decide +kernel
theorem dX11_touch_38 : decode cX11_touch 38 = .ok (.aaload, 1) := by decide +kernel
theorem dX11_touch_39 : decode cX11_touch 39 = .ok (.astore 4, 2) := by decide +kernel
theorem dX11_touch_41 : decode cX11_touch 41 = .ok (.aload 4, 2) := by decide +kernel
theorem dX11_touch_43 : decode cX11_touch 43 = .ok (.getfield 123, 3) := by decide +kernel
theorem dX11_touch_46 : decode cX11_touch 46 = .ok (.iload_n 1, 1) := by decide +kernel
theorem dX11_touch_47 : decode cX11_touch 47 = .ok (.ishr, 1) := by decide +kernel
theorem dX11_touch_48 : decode cX11_touch 48 = .ok (.iconst 1, 1) := by decide +kernel
theorem dX11_touch_49 : decode cX11_touch 49 = .ok (.iand, 1) := by decide +kernel
theorem dX11_touch_50 : decode cX11_touch 50 = .ok (.istore 5, 2) := by decide +kernel
theorem dX11_touch_52 : decode cX11_touch 52 = .ok (.aload 4, 2) := by decide +kernel
theorem dX11_touch_54 : decode cX11_touch 54 = .ok (.iload_n 3, 1) := by decide +kernel
theorem dX11_touch_55 : decode cX11_touch 55 = .ok (.ifCond .eq 15, 3) := by decide +kernel
theorem dX11_touch_58 : decode cX11_touch 58 = .ok (.aload 4, 2) := by decide +kernel
theorem dX11_touch_60 : decode cX11_touch 60 = .ok (.getfield 123, 3) := by decide +kernel
theorem dX11_touch_63 : decode cX11_touch 63 = .ok (.iconst 1, 1) := by decide +kernel
theorem dX11_touch_64 : decode cX11_touch 64 = .ok (.iload_n 1, 1) := by decide +kernel
theorem dX11_touch_65 : decode cX11_touch 65 = .ok (.ishl, 1) := by decide +kernel
theorem dX11_touch_66 : decode cX11_touch 66 = .ok (.ior, 1) := by decide +kernel
theorem dX11_touch_67 : decode cX11_touch 67 = .ok (.goto 14, 3) := by decide +kernel
theorem dX11_touch_70 : decode cX11_touch 70 = .ok (.aload 4, 2) := by decide +kernel
theorem dX11_touch_72 : decode cX11_touch 72 = .ok (.getfield 123, 3) := by decide +kernel
theorem dX11_touch_75 : decode cX11_touch 75 = .ok (.iconst 1, 1) := by decide +kernel
theorem dX11_touch_76 : decode cX11_touch 76 = .ok (.iload_n 1, 1) := by decide +kernel
theorem dX11_touch_77 : decode cX11_touch 77 = .ok (.ishl, 1) := by decide +kernel
theorem dX11_touch_78 : decode cX11_touch 78 = .ok (.iconst (-1), 1) := by decide +kernel
theorem dX11_touch_79 : decode cX11_touch 79 = .ok (.ixor, 1) := by decide +kernel
theorem dX11_touch_80 : decode cX11_touch 80 = .ok (.iand, 1) := by decide +kernel
theorem dX11_touch_81 : decode cX11_touch 81 = .ok (.putfield 123, 3) := by decide +kernel
theorem dX11_touch_84 : decode cX11_touch 84 = .ok (.iload 5, 2) := by decide +kernel
theorem dX11_touch_86 : decode cX11_touch 86 = .ok (.ireturn, 1) := by decide +kernel
theorem dX11_saying_0 : decode cX11_saying 0 = .ok (.iload_n 1, 1) := by decide +kernel
theorem dX11_saying_1 : decode cX11_saying 1 = .ok (.iconst 1, 1) := by decide +kernel
theorem dX11_saying_2 : decode cX11_saying 2 = .ok (.if_icmp .lt 9, 3) := by decide +kernel
theorem dX11_saying_5 : decode cX11_saying 5 = .ok (.iload_n 1, 1) := by decide +kernel
theorem dX11_saying_6 : decode cX11_saying 6 = .ok (.bipush 40, 2) := by decide +kernel
theorem dX11_saying_8 : decode cX11_saying 8 = .ok (.if_icmp .le 6, 3) := by decide +kernel
theorem dX11_saying_11 : decode cX11_saying 11 = .ok (.bipush (-102), 2) := by decide +kernel
theorem dX11_saying_13 : decode cX11_saying 13 = .ok (.ireturn, 1) := by decide +kernel
theorem dX11_saying_14 : decode cX11_saying 14 = .ok (.aload_n 0, 1) := by decide +kernel
theorem dX11_saying_15 : decode cX11_saying 15 = .ok (.getfield 27, 3) := by decide +kernel
theorem dX11_saying_18 : decode cX11_saying 18 = .ok (.getfield 78, 3) := by decide +kernel
theorem dX11_saying_21 : decode cX11_saying 21 = .ok (.ifCond .ne 6, 3) := by decide +kernel
theorem dX11_saying_24 : decode cX11_saying 24 = .ok (.bipush (-103), 2) := by decide +kernel
theorem dX11_saying_26 : decode cX11_saying 26 = .ok (.ireturn, 1) := by decide +kernel
theorem dX11_saying_27 : decode cX11_saying 27 = .ok (.aload_n 0, 1) := by decide +kernel
theorem dX11_saying_28 : decode cX11_saying 28 = .ok (.getfield 19, 3) := by decide +kernel
theorem dX11_saying_31 : decode cX11_saying 31 = .ok (.invokevirtual 85, 3) := by decide +kernel
theorem dX11_saying_34 : decode cX11_saying 34 = .ok (.iconst 0, 1) := by decide +kernel
theorem dX11_saying_35 : decode cX11_saying 35 = .ok (.istore_n 2, 1) := by decide +kernel
theorem dX11_saying_36 : decode cX11_saying 36 = .ok (.iconst 0, 1) := by decide +kernel
theorem dX11_saying_37 : decode cX11_saying 37 = .ok (.istore_n 3, 1) := by decide +kernel
theorem dX11_saying_38 : decode cX11_saying 38 = .ok (.iload_n 3, 1) := by decide +kernel
theorem dX11_saying_39 : decode cX11_saying 39 = .ok (.aload_n 0, 1) := by decide +kernel
theorem dX11_saying_40 : decode cX11_saying 40 = .ok (.getfield 27, 3) := by decide +kernel
theorem dX11_saying_43 : decode cX11_saying 43 = .ok (.getfield 78, 3) := by decide +kernel
theorem dX11_saying_46 : decode cX11_saying 46 = .ok (.if_icmp .ge 25, 3) := by decide +kernel
theorem dX11_saying_49 : decode cX11_saying 49 = .ok (.aload_n 0, 1) := by decide +kernel
theorem dX11_saying_50 : decode cX11_saying 50 = .ok (.getfield 19, 3) := by decide +kernel
theorem dX11_saying_53 : decode cX11_saying 53 = .ok (.getfield 109, 3) := by decide +kernel
theorem dX11_saying_56 : decode cX11_saying 56 = .ok (.iload_n 3, 1) := by decide +kernel
theorem dX11_saying_57 : decode cX11_saying 57 = .ok (.iaload, 1) := by decide +kernel
theorem dX11_saying_58 : decode cX11_saying 58 = .ok (.iload_n 1, 1) := by decide +kernel
theorem dX11_saying_59 : decode cX11_saying 59 = .ok (.if_icmp .le 6, 3) := by decide +kernel
theorem dX11_saying_62 : decode cX11_saying 62 = .ok (.iinc 2 1, 3) := by decide +kernel
theorem dX11_saying_65 : decode cX11_saying 65 = .ok (.iinc 3 1, 3) := by decide +kernel
theorem dX11_saying_68 : decode cX11_saying 68 = .ok (.goto (-30), 3) := by decide +kernel
theorem dX11_saying_71 : decode cX11_saying 71 = .ok (.iload_n 2, 1) := by decide +kernel
theorem dX11_saying_72 : decode cX11_saying 72 = .ok (.ireturn, 1) := by decide +kernel
theorem dX11_lot_0 : decode cX11_lot 0 = .ok (.iload_n 1, 1) := by decide +kernel
theorem dX11_lot_1 : decode cX11_lot 1 = .ok (.ifCond .lt 8, 3) := by decide +kernel
theorem dX11_lot_4 : decode cX11_lot 4 = .ok (.iload_n 1, 1) := by decide +kernel
theorem dX11_lot_5 : decode cX11_lot 5 = .ok (.iconst 2, 1) := by decide +kernel
theorem dX11_lot_6 : decode cX11_lot 6 = .ok (.if_icmp .le 6, 3) := by decide +kernel
theorem dX11_lot_9 : decode cX11_lot 9 = .ok (.bipush (-102), 2) := by decide +kernel
theorem dX11_lot_11 : decode cX11_lot 11 = .ok (.ireturn, 1) := by decide +kernel
theorem dX11_lot_12 : decode cX11_lot 12 = .ok (.aload_n 0, 1) := by decide +kernel
theorem dX11_lot_13 : decode cX11_lot 13 = .ok (.getfield 27, 3) := by decide +kernel
theorem dX11_lot_16 : decode cX11_lot 16 = .ok (.getfield 78, 3) := by decide +kernel
theorem dX11_lot_19 : decode cX11_lot 19 = .ok (.ifCond .ne 6, 3) := by decide +kernel
theorem dX11_lot_22 : decode cX11_lot 22 = .ok (.bipush (-103), 2) := by decide +kernel
theorem dX11_lot_24 : decode cX11_lot 24 = .ok (.ireturn, 1) := by decide +kernel
theorem dX11_lot_25 : decode cX11_lot 25 = .ok (.aload_n 0, 1) := by decide +kernel
theorem dX11_lot_26 : decode cX11_lot 26 = .ok (.getfield 19, 3) := by decide +kernel
theorem dX11_lot_29 : decode cX11_lot 29 = .ok (.invokevirtual 85, 3) := by decide +kernel
theorem dX11_lot_32 : decode cX11_lot 32 = .ok (.aload_n 0, 1) := by decide +kernel
theorem dX11_lot_33 : decode cX11_lot 33 = .ok (.getfield 19, 3) := by decide +kernel
theorem dX11_lot_36 : decode cX11_lot 36 = .ok (.getfield 138, 3) := by decide +kernel
theorem dX11_lot_39 : decode cX11_lot 39 = .ok (.iconst (-1), 1) := by decide +kernel
theorem dX11_lot_40 : decode cX11_lot 40 = .ok (.if_icmp .ne 5, 3) := by decide +kernel
theorem dX11_lot_43 : decode cX11_lot 43 = .ok (.iconst (-1), 1) := by decide +kernel
theorem dX11_lot_44 : decode cX11_lot 44 = .ok (.ireturn, 1) := by decide +kernel
theorem dX11_lot_45 : decode cX11_lot 45 = .ok (.iload_n 1, 1) := by decide +kernel
theorem dX11_lot_46 : decode cX11_lot 46 = .ok (.lookupswitch 49 #[(0, 26), (1, 34)], 26) := by decide +kernel
theorem dX11_lot_72 : decode cX11_lot 72 = .ok (.aload_n 0, 1) := by decide +kernel
theorem dX11_lot_73 : decode cX11_lot 73 = .ok (.getfield 19, 3) := by decide +kernel
theorem dX11_lot_76 : decode cX11_lot 76 = .ok (.getfield 138, 3) := by decide +kernel
theorem dX11_lot_79 : decode cX11_lot 79 = .ok (.ireturn, 1) := by decide +kernel
theorem dX11_lot_80 : decode cX11_lot 80 = .ok (.aload_n 0, 1) := by decide +kernel
theorem dX11_lot_81 : decode cX11_lot 81 = .ok (.getfield 19, 3) := by decide +kernel
theorem dX11_lot_84 : decode cX11_lot 84 = .ok (.aload_n 0, 1) := by decide +kernel
theorem dX11_lot_85 : decode cX11_lot 85 = .ok (.getfield 19, 3) := by decide +kernel
theorem dX11_lot_88 : decode cX11_lot 88 = .ok (.getfield 138, 3) := by decide +kernel
theorem dX11_lot_91 : decode cX11_lot 91 = .ok (.invokevirtual 116, 3) := by decide +kernel
theorem dX11_lot_94 : decode cX11_lot 94 = .ok (.ireturn, 1) := by decide +kernel
theorem dX11_lot_95 : decode cX11_lot 95 = .ok (.aload_n 0, 1) := by decide +kernel
theorem dX11_lot_96 : decode cX11_lot 96 = .ok (.getfield 19, 3) := by decide +kernel
theorem dX11_lot_99 : decode cX11_lot 99 = .ok (.getfield 113, 3) := by decide +kernel
theorem dX11_lot_102 : decode cX11_lot 102 = .ok (.aload_n 0, 1) := by decide +kernel
theorem dX11_lot_103 : decode cX11_lot 103 = .ok (.getfield 19, 3) := by decide +kernel
theorem dX11_lot_106 : decode cX11_lot 106 = .ok (.getfield 138, 3) := by decide +kernel
theorem dX11_lot_109 : decode cX11_lot 109 = .ok (.iaload, 1) := by decide +kernel
theorem dX11_lot_110 : decode cX11_lot 110 = .ok (.ireturn, 1) := by decide +kernel
theorem dX11_best_0 : decode cX11_best 0 = .ok (.aload_n 0, 1) := by decide +kernel
theorem dX11_best_1 : decode cX11_best 1 = .ok (.getfield 27, 3) := by decide +kernel
theorem dX11_best_4 : decode cX11_best 4 = .ok (.iload_n 1, 1) := by decide +kernel
theorem dX11_best_5 : decode cX11_best 5 = .ok (.invokevirtual 81, 3) := by decide +kernel
theorem dX11_best_8 : decode cX11_best 8 = .ok (.ifCond .ne 6, 3) := by decide +kernel
theorem dX11_best_11 : decode cX11_best 11 = .ok (.bipush (-101), 2) := by decide +kernel
theorem dX11_best_13 : decode cX11_best 13 = .ok (.ireturn, 1) := by decide +kernel
theorem dX11_best_14 : decode cX11_best 14 = .ok (.iload_n 2, 1) := by decide +kernel
theorem dX11_best_15 : decode cX11_best 15 = .ok (.ifCond .lt 8, 3) := by decide +kernel
theorem dX11_best_18 : decode cX11_best 18 = .ok (.iload_n 2, 1) := by decide +kernel
theorem dX11_best_19 : decode cX11_best 19 = .ok (.iconst 1, 1) := by decide +kernel
theorem dX11_best_20 : decode cX11_best 20 = .ok (.if_icmp .le 6, 3) := by decide +kernel
theorem dX11_best_23 : decode cX11_best 23 = .ok (.bipush (-102), 2) := by decide +kernel
theorem dX11_best_25 : decode cX11_best 25 = .ok (.ireturn, 1) := by decide +kernel
theorem dX11_best_26 : decode cX11_best 26 = .ok (.aload_n 0, 1) := by decide +kernel
theorem dX11_best_27 : decode cX11_best 27 = .ok (.getfield 19, 3) := by decide +kernel
theorem dX11_best_30 : decode cX11_best 30 = .ok (.invokevirtual 141, 3) := by decide +kernel
theorem dX11_best_33 : decode cX11_best 33 = .ok (.iconst 1, 1) := by decide +kernel
theorem dX11_best_34 : decode cX11_best 34 = .ok (.istore_n 3, 1) := by decide +kernel
theorem dX11_best_35 : decode cX11_best 35 = .ok (.aload_n 0, 1) := by decide +kernel
theorem dX11_best_36 : decode cX11_best 36 = .ok (.iload_n 1, 1) := by decide +kernel
theorem dX11_best_37 : decode cX11_best 37 = .ok (.iconst 1, 1) := by decide +kernel
theorem dX11_best_38 : decode cX11_best 38 = .ok (.invokevirtual 144, 3) := by decide +kernel
theorem dX11_best_41 : decode cX11_best 41 = .ok (.istore 4, 2) := by decide +kernel
theorem dX11_best_43 : decode cX11_best 43 = .ok (.iconst 2, 1) := by decide +kernel
theorem dX11_best_44 : decode cX11_best 44 = .ok (.istore 5, 2) := by decide +kernel
theorem dX11_best_46 : decode cX11_best 46 = .ok (.iload 5, 2) := by decide +kernel
theorem dX11_best_48 : decode cX11_best 48 = .ok (.bipush 30, 2) := by decide +kernel
theorem dX11_best_50 : decode cX11_best 50 = .ok (.if_icmp .gt 32, 3) := by decide +kernel
theorem dX11_best_53 : decode cX11_best 53 = .ok (.aload_n 0, 1) := by decide +kernel
theorem dX11_best_54 : decode cX11_best 54 = .ok (.iload_n 1, 1) := by decide +kernel
theorem dX11_best_55 : decode cX11_best 55 = .ok (.iload 5, 2) := by decide +kernel
theorem dX11_best_57 : decode cX11_best 57 = .ok (.invokevirtual 144, 3) := by decide +kernel
theorem dX11_best_60 : decode cX11_best 60 = .ok (.istore 6, 2) := by decide +kernel
theorem dX11_best_62 : decode cX11_best 62 = .ok (.iload 6, 2) := by decide +kernel
theorem dX11_best_64 : decode cX11_best 64 = .ok (.iload 4, 2) := by decide +kernel
theorem dX11_best_66 : decode cX11_best 66 = .ok (.if_icmp .le 10, 3) := by decide +kernel
theorem dX11_best_69 : decode cX11_best 69 = .ok (.iload 5, 2) := by decide +kernel
theorem dX11_best_71 : decode cX11_best 71 = .ok (.istore_n 3, 1) := by decide +kernel
theorem dX11_best_72 : decode cX11_best 72 = .ok (.iload 6, 2) := by decide +kernel
theorem dX11_best_74 : decode cX11_best 74 = .ok (.istore 4, 2) := by decide +kernel
theorem dX11_best_76 : decode cX11_best 76 = .ok (.iinc 5 1, 3) := by decide +kernel
theorem dX11_best_79 : decode cX11_best 79 = .ok (.goto (-33), 3) := by decide +kernel
theorem dX11_best_82 : decode cX11_best 82 = .ok (.iload_n 2, 1) := by decide +kernel
theorem dX11_best_83 : decode cX11_best 83 = .ok (.ifCond .ne 7, 3) := by decide +kernel
theorem dX11_best_86 : decode cX11_best 86 = .ok (.iload_n 3, 1) := by decide +kernel
theorem dX11_best_87 : decode cX11_best 87 = .ok (.goto 8, 3) := by decide +kernel
theorem dX11_best_90 : decode cX11_best 90 = .ok (.iload 4, 2) := by decide +kernel
theorem dX11_best_92 : decode cX11_best 92 = .ok (.bipush 100, 2) := by decide +kernel
theorem dX11_best_94 : decode cX11_best 94 = .ok (.iadd, 1) := by decide +kernel
theorem dX11_best_95 : decode cX11_best 95 = .ok (.ireturn, 1) := by decide +kernel
theorem dX11_gainByChoice_0 : decode cX11_gainByChoice 0 = .ok (.aload_n 0, 1) := by decide +kernel
theorem dX11_gainByChoice_1 : decode cX11_gainByChoice 1 = .ok (.getfield 19, 3) := by decide +kernel
theorem dX11_gainByChoice_4 : decode cX11_gainByChoice 4 = .ok (.iload_n 1, 1) := by decide +kernel
theorem dX11_gainByChoice_5 : decode cX11_gainByChoice 5 = .ok (.iload_n 2, 1) := by decide +kernel
theorem dX11_gainByChoice_6 : decode cX11_gainByChoice 6 = .ok (.invokevirtual 148, 3) := by decide +kernel
theorem dX11_gainByChoice_9 : decode cX11_gainByChoice 9 = .ok (.aload_n 0, 1) := by decide +kernel
theorem dX11_gainByChoice_10 : decode cX11_gainByChoice 10 = .ok (.getfield 19, 3) := by decide +kernel
theorem dX11_gainByChoice_13 : decode cX11_gainByChoice 13 = .ok (.invokevirtual 152, 3) := by decide +kernel
theorem dX11_gainByChoice_16 : decode cX11_gainByChoice 16 = .ok (.aload_n 0, 1) := by decide +kernel
theorem dX11_gainByChoice_17 : decode cX11_gainByChoice 17 = .ok (.getfield 19, 3) := by decide +kernel
theorem dX11_gainByChoice_20 : decode cX11_gainByChoice 20 = .ok (.iload_n 1, 1) := by decide +kernel
theorem dX11_gainByChoice_21 : decode cX11_gainByChoice 21 = .ok (.invokevirtual 120, 3) := by decide +kernel
theorem dX11_gainByChoice_24 : decode cX11_gainByChoice 24 = .ok (.ireturn, 1) := by decide +kernel
theorem dX11_rests_0 : decode cX11_rests 0 = .ok (.iload_n 1, 1) := by decide +kernel
theorem dX11_rests_1 : decode cX11_rests 1 = .ok (.iconst 1, 1) := by decide +kernel
theorem dX11_rests_2 : decode cX11_rests 2 = .ok (.if_icmp .lt 8, 3) := by decide +kernel
theorem dX11_rests_5 : decode cX11_rests 5 = .ok (.iload_n 1, 1) := by decide +kernel
theorem dX11_rests_6 : decode cX11_rests 6 = .ok (.iconst 4, 1) := by decide +kernel
theorem dX11_rests_7 : decode cX11_rests 7 = .ok (.if_icmp .le 6, 3) := by decide +kernel
theorem dX11_rests_10 : decode cX11_rests 10 = .ok (.bipush (-102), 2) := by decide +kernel
theorem dX11_rests_12 : decode cX11_rests 12 = .ok (.ireturn, 1) := by decide +kernel
theorem dX11_rests_13 : decode cX11_rests 13 = .ok (.iload_n 2, 1) := by decide +kernel
theorem dX11_rests_14 : decode cX11_rests 14 = .ok (.ifCond .eq 18, 3) := by decide +kernel
theorem dX11_rests_17 : decode cX11_rests 17 = .ok (.iload_n 2, 1) := by decide +kernel
theorem dX11_rests_18 : decode cX11_rests 18 = .ok (.bipush 10, 2) := by decide +kernel
theorem dX11_rests_20 : decode cX11_rests 20 = .ok (.if_icmp .lt 9, 3) := by decide +kernel
theorem dX11_rests_23 : decode cX11_rests 23 = .ok (.iload_n 2, 1) := by decide +kernel
theorem dX11_rests_24 : decode cX11_rests 24 = .ok (.bipush 14, 2) := by decide +kernel
theorem dX11_rests_26 : decode cX11_rests 26 = .ok (.if_icmp .le 6, 3) := by decide +kernel
theorem dX11_rests_29 : decode cX11_rests 29 = .ok (.bipush (-102), 2) := by decide +kernel
theorem dX11_rests_31 : decode cX11_rests 31 = .ok (.ireturn, 1) := by decide +kernel
theorem dX11_rests_32 : decode cX11_rests 32 = .ok (.aload_n 0, 1) := by decide +kernel
theorem dX11_rests_33 : decode cX11_rests 33 = .ok (.getfield 27, 3) := by decide +kernel
theorem dX11_rests_36 : decode cX11_rests 36 = .ok (.getfield 78, 3) := by decide +kernel
theorem dX11_rests_39 : decode cX11_rests 39 = .ok (.ifCond .eq 12, 3) := by decide +kernel
theorem dX11_rests_42 : decode cX11_rests 42 = .ok (.aload_n 0, 1) := by decide +kernel
theorem dX11_rests_43 : decode cX11_rests 43 = .ok (.getfield 155, 3) := by decide +kernel
theorem dX11_rests_46 : decode cX11_rests 46 = .ok (.bipush 20, 2) := by decide +kernel
theorem dX11_rests_48 : decode cX11_rests 48 = .ok (.if_icmp .lt 6, 3) := by decide +kernel
theorem dX11_rests_51 : decode cX11_rests 51 = .ok (.bipush (-103), 2) := by decide +kernel
theorem dX11_rests_53 : decode cX11_rests 53 = .ok (.ireturn, 1) := by decide +kernel
theorem dX11_rests_54 : decode cX11_rests 54 = .ok (.aload_n 0, 1) := by decide +kernel
theorem dX11_rests_55 : decode cX11_rests 55 = .ok (.dup, 1) := by decide +kernel
theorem dX11_rests_56 : decode cX11_rests 56 = .ok (.getfield 155, 3) := by decide +kernel
theorem dX11_rests_59 : decode cX11_rests 59 = .ok (.iconst 1, 1) := by decide +kernel
theorem dX11_rests_60 : decode cX11_rests 60 = .ok (.iadd, 1) := by decide +kernel
theorem dX11_rests_61 : decode cX11_rests 61 = .ok (.putfield 155, 3) := by decide +kernel
theorem dX11_rests_64 : decode cX11_rests 64 = .ok (.aload_n 0, 1) := by decide +kernel
theorem dX11_rests_65 : decode cX11_rests 65 = .ok (.getfield 45, 3) := by decide +kernel
theorem dX11_rests_68 : decode cX11_rests 68 = .ok (.aload_n 0, 1) := by decide +kernel
theorem dX11_rests_69 : decode cX11_rests 69 = .ok (.getfield 19, 3) := by decide +kernel
theorem dX11_rests_72 : decode cX11_rests 72 = .ok (.iload_n 1, 1) := by decide +kernel
theorem dX11_rests_73 : decode cX11_rests 73 = .ok (.invokevirtual 158, 3) := by decide +kernel
theorem dX11_rests_76 : decode cX11_rests 76 = .ok (.iload_n 2, 1) := by decide +kernel
theorem dX11_rests_77 : decode cX11_rests 77 = .ok (.ifCond .ne 13, 3) := by decide +kernel
theorem dX11_rests_80 : decode cX11_rests 80 = .ok (.aload_n 0, 1) := by decide +kernel
theorem dX11_rests_81 : decode cX11_rests 81 = .ok (.getfield 45, 3) := by decide +kernel
theorem dX11_rests_84 : decode cX11_rests 84 = .ok (.getfield 162, 3) := by decide +kernel
theorem dX11_rests_87 : decode cX11_rests 87 = .ok (.goto 14, 3) := by decide +kernel
theorem dX11_rests_90 : decode cX11_rests 90 = .ok (.aload_n 0, 1) := by decide +kernel
theorem dX11_rests_91 : decode cX11_rests 91 = .ok (.getfield 45, 3) := by decide +kernel
theorem dX11_rests_94 : decode cX11_rests 94 = .ok (.iload_n 2, 1) := by decide +kernel
theorem dX11_rests_95 : decode cX11_rests 95 = .ok (.bipush 10, 2) := by decide +kernel
theorem dX11_rests_97 : decode cX11_rests 97 = .ok (.isub, 1) := by decide +kernel
theorem dX11_rests_98 : decode cX11_rests 98 = .ok (.invokevirtual 165, 3) := by decide +kernel
theorem dX11_rests_101 : decode cX11_rests 101 = .ok (.ireturn, 1) := by decide +kernel
theorem dX11_hear_0 : decode cX11_hear 0 = .ok (.aload_n 0, 1) := by decide +kernel
theorem dX11_hear_1 : decode cX11_hear 1 = .ok (.getfield 27, 3) := by decide +kernel
theorem dX11_hear_4 : decode cX11_hear 4 = .ok (.iload_n 1, 1) := by decide +kernel
theorem dX11_hear_5 : decode cX11_hear 5 = .ok (.invokevirtual 81, 3) := by decide +kernel
theorem dX11_hear_8 : decode cX11_hear 8 = .ok (.ifCond .ne 6, 3) := by decide +kernel
theorem dX11_hear_11 : decode cX11_hear 11 = .ok (.bipush (-101), 2) := by decide +kernel
theorem dX11_hear_13 : decode cX11_hear 13 = .ok (.ireturn, 1) := by decide +kernel
theorem dX11_hear_14 : decode cX11_hear 14 = .ok (.iload_n 2, 1) := by decide +kernel
theorem dX11_hear_15 : decode cX11_hear 15 = .ok (.iconst 1, 1) := by decide +kernel
theorem dX11_hear_16 : decode cX11_hear 16 = .ok (.if_icmp .lt 9, 3) := by decide +kernel
theorem dX11_hear_19 : decode cX11_hear 19 = .ok (.iload_n 2, 1) := by decide +kernel
theorem dX11_hear_20 : decode cX11_hear 20 = .ok (.bipush 40, 2) := by decide +kernel
theorem dX11_hear_22 : decode cX11_hear 22 = .ok (.if_icmp .le 6, 3) := by decide +kernel
theorem dX11_hear_25 : decode cX11_hear 25 = .ok (.bipush (-102), 2) := by decide +kernel
theorem dX11_hear_27 : decode cX11_hear 27 = .ok (.ireturn, 1) := by decide +kernel
theorem dX11_hear_28 : decode cX11_hear 28 = .ok (.aload_n 0, 1) := by decide +kernel
theorem dX11_hear_29 : decode cX11_hear 29 = .ok (.getfield 31, 3) := by decide +kernel
theorem dX11_hear_32 : decode cX11_hear 32 = .ok (.invokevirtual 168, 3) := by decide +kernel
theorem dX11_hear_35 : decode cX11_hear 35 = .ok (.ifCond .eq 6, 3) := by decide +kernel
theorem dX11_hear_38 : decode cX11_hear 38 = .ok (.bipush (-104), 2) := by decide +kernel
theorem dX11_hear_40 : decode cX11_hear 40 = .ok (.ireturn, 1) := by decide +kernel
theorem dX11_hear_41 : decode cX11_hear 41 = .ok (.aload_n 0, 1) := by decide +kernel
theorem dX11_hear_42 : decode cX11_hear 42 = .ok (.getfield 31, 3) := by decide +kernel
theorem dX11_hear_45 : decode cX11_hear 45 = .ok (.iload_n 1, 1) := by decide +kernel
theorem dX11_hear_46 : decode cX11_hear 46 = .ok (.iload_n 2, 1) := by decide +kernel
theorem dX11_hear_47 : decode cX11_hear 47 = .ok (.invokevirtual 169, 3) := by decide +kernel
theorem dX11_hear_50 : decode cX11_hear 50 = .ok (.aload_n 0, 1) := by decide +kernel
theorem dX11_hear_51 : decode cX11_hear 51 = .ok (.getfield 31, 3) := by decide +kernel
theorem dX11_hear_54 : decode cX11_hear 54 = .ok (.getfield 72, 3) := by decide +kernel
theorem dX11_hear_57 : decode cX11_hear 57 = .ok (.ireturn, 1) := by decide +kernel
theorem dX11_forget_0 : decode cX11_forget 0 = .ok (.aload_n 0, 1) := by decide +kernel
theorem dX11_forget_1 : decode cX11_forget 1 = .ok (.getfield 31, 3) := by decide +kernel
theorem dX11_forget_4 : decode cX11_forget 4 = .ok (.getfield 72, 3) := by decide +kernel
theorem dX11_forget_7 : decode cX11_forget 7 = .ok (.istore_n 1, 1) := by decide +kernel
theorem dX11_forget_8 : decode cX11_forget 8 = .ok (.aload_n 0, 1) := by decide +kernel
theorem dX11_forget_9 : decode cX11_forget 9 = .ok (.getfield 31, 3) := by decide +kernel
theorem dX11_forget_12 : decode cX11_forget 12 = .ok (.iconst 0, 1) := by decide +kernel
theorem dX11_forget_13 : decode cX11_forget 13 = .ok (.putfield 72, 3) := by decide +kernel
theorem dX11_forget_16 : decode cX11_forget 16 = .ok (.iload_n 1, 1) := by decide +kernel
theorem dX11_forget_17 : decode cX11_forget 17 = .ok (.ireturn, 1) := by decide +kernel
theorem dX11_winds_0 : decode cX11_winds 0 = .ok (.aload_n 0, 1) := by decide +kernel
theorem dX11_winds_1 : decode cX11_winds 1 = .ok (.getfield 27, 3) := by decide +kernel
theorem dX11_winds_4 : decode cX11_winds 4 = .ok (.iload_n 1, 1) := by decide +kernel
theorem dX11_winds_5 : decode cX11_winds 5 = .ok (.invokevirtual 81, 3) := by decide +kernel
theorem dX11_winds_8 : decode cX11_winds 8 = .ok (.ifCond .ne 6, 3) := by decide +kernel
theorem dX11_winds_11 : decode cX11_winds 11 = .ok (.bipush (-101), 2) := by decide +kernel
theorem dX11_winds_13 : decode cX11_winds 13 = .ok (.ireturn, 1) := by decide +kernel
theorem dX11_winds_14 : decode cX11_winds 14 = .ok (.iconst 0, 1) := by decide +kernel
theorem dX11_winds_15 : decode cX11_winds 15 = .ok (.istore_n 2, 1) := by decide +kernel
theorem dX11_winds_16 : decode cX11_winds 16 = .ok (.aload_n 0, 1) := by decide +kernel
theorem dX11_winds_17 : decode cX11_winds 17 = .ok (.getfield 19, 3) := by decide +kernel
theorem dX11_winds_20 : decode cX11_winds 20 = .ok (.invokevirtual 141, 3) := by decide +kernel
theorem dX11_winds_23 : decode cX11_winds 23 = .ok (.iconst 1, 1) := by decide +kernel
theorem dX11_winds_24 : decode cX11_winds 24 = .ok (.istore_n 3, 1) := by decide +kernel
theorem dX11_winds_25 : decode cX11_winds 25 = .ok (.iload_n 3, 1) := by decide +kernel
theorem dX11_winds_26 : decode cX11_winds 26 = .ok (.bipush 9, 2) := by decide +kernel
theorem dX11_winds_28 : decode cX11_winds 28 = .ok (.if_icmp .gt 46, 3) := by decide +kernel
theorem dX11_winds_31 : decode cX11_winds 31 = .ok (.aload_n 0, 1) := by decide +kernel
theorem dX11_winds_32 : decode cX11_winds 32 = .ok (.getfield 19, 3) := by decide +kernel
theorem dX11_winds_35 : decode cX11_winds 35 = .ok (.iload_n 1, 1) := by decide +kernel
theorem dX11_winds_36 : decode cX11_winds 36 = .ok (.iload_n 3, 1) := by decide +kernel
theorem dX11_winds_37 : decode cX11_winds 37 = .ok (.invokevirtual 172, 3) := by decide +kernel
theorem dX11_winds_40 : decode cX11_winds 40 = .ok (.aload_n 0, 1) := by decide +kernel
theorem dX11_winds_41 : decode cX11_winds 41 = .ok (.getfield 19, 3) := by decide +kernel
theorem dX11_winds_44 : decode cX11_winds 44 = .ok (.invokevirtual 152, 3) := by decide +kernel
theorem dX11_winds_47 : decode cX11_winds 47 = .ok (.aload_n 0, 1) := by decide +kernel
theorem dX11_winds_48 : decode cX11_winds 48 = .ok (.getfield 31, 3) := by decide +kernel
theorem dX11_winds_51 : decode cX11_winds 51 = .ok (.iload_n 1, 1) := by decide +kernel
theorem dX11_winds_52 : decode cX11_winds 52 = .ok (.aload_n 0, 1) := by decide +kernel
theorem dX11_winds_53 : decode cX11_winds 53 = .ok (.getfield 19, 3) := by decide +kernel
theorem dX11_winds_56 : decode cX11_winds 56 = .ok (.invokevirtual 175, 3) := by decide +kernel
theorem dX11_winds_59 : decode cX11_winds 59 = .ok (.ifCond .eq 9, 3) := by decide +kernel
theorem dX11_winds_62 : decode cX11_winds 62 = .ok (.iload_n 2, 1) := by decide +kernel
theorem dX11_winds_63 : decode cX11_winds 63 = .ok (.iconst 1, 1) := by decide +kernel
theorem dX11_winds_64 : decode cX11_winds 64 = .ok (.iload_n 3, 1) := by decide +kernel
theorem dX11_winds_65 : decode cX11_winds 65 = .ok (.ishl, 1) := by decide +kernel
theorem dX11_winds_66 : decode cX11_winds 66 = .ok (.ior, 1) := by decide +kernel
theorem dX11_winds_67 : decode cX11_winds 67 = .ok (.istore_n 2, 1) := by decide +kernel
theorem dX11_winds_68 : decode cX11_winds 68 = .ok (.iinc 3 1, 3) := by decide +kernel
theorem dX11_winds_71 : decode cX11_winds 71 = .ok (.goto (-46), 3) := by decide +kernel
theorem dX11_winds_74 : decode cX11_winds 74 = .ok (.iload_n 2, 1) := by decide +kernel
theorem dX11_winds_75 : decode cX11_winds 75 = .ok (.ireturn, 1) := by decide +kernel
theorem dX11_touched_0 : decode cX11_touched 0 = .ok (.iload_n 1, 1) := by decide +kernel
theorem dX11_touched_1 : decode cX11_touched 1 = .ok (.ifCond .lt 8, 3) := by decide +kernel
theorem dX11_touched_4 : decode cX11_touched 4 = .ok (.iload_n 1, 1) := by decide +kernel
theorem dX11_touched_5 : decode cX11_touched 5 = .ok (.iconst 1, 1) := by decide +kernel
theorem dX11_touched_6 : decode cX11_touched 6 = .ok (.if_icmp .le 6, 3) := by decide +kernel
theorem dX11_touched_9 : decode cX11_touched 9 = .ok (.bipush (-102), 2) := by decide +kernel
theorem dX11_touched_11 : decode cX11_touched 11 = .ok (.ireturn, 1) := by decide +kernel
theorem dX11_touched_12 : decode cX11_touched 12 = .ok (.aload_n 0, 1) := by decide +kernel
theorem dX11_touched_13 : decode cX11_touched 13 = .ok (.getfield 27, 3) := by decide +kernel
theorem dX11_touched_16 : decode cX11_touched 16 = .ok (.getfield 78, 3) := by decide +kernel
theorem dX11_touched_19 : decode cX11_touched 19 = .ok (.ifCond .ne 6, 3) := by decide +kernel
theorem dX11_touched_22 : decode cX11_touched 22 = .ok (.bipush (-103), 2) := by decide +kernel
theorem dX11_touched_24 : decode cX11_touched 24 = .ok (.ireturn, 1) := by decide +kernel
theorem dX11_touched_25 : decode cX11_touched 25 = .ok (.iconst 0, 1) := by decide +kernel
theorem dX11_touched_26 : decode cX11_touched 26 = .ok (.istore_n 2, 1) := by decide +kernel
theorem dX11_touched_27 : decode cX11_touched 27 = .ok (.bipush (-2), 2) := by decide +kernel
theorem dX11_touched_29 : decode cX11_touched 29 = .ok (.istore_n 3, 1) := by decide +kernel
theorem dX11_touched_30 : decode cX11_touched 30 = .ok (.aload_n 0, 1) := by decide +kernel
theorem dX11_touched_31 : decode cX11_touched 31 = .ok (.getfield 19, 3) := by decide +kernel
theorem dX11_touched_34 : decode cX11_touched 34 = .ok (.invokevirtual 85, 3) := by decide +kernel
theorem dX11_touched_37 : decode cX11_touched 37 = .ok (.aload_n 0, 1) := by decide +kernel
theorem dX11_touched_38 : decode cX11_touched 38 = .ok (.getfield 31, 3) := by decide +kernel
theorem dX11_touched_41 : decode cX11_touched 41 = .ok (.aload_n 0, 1) := by decide +kernel
theorem dX11_touched_42 : decode cX11_touched 42 = .ok (.getfield 19, 3) := by decide +kernel
theorem dX11_touched_45 : decode cX11_touched 45 = .ok (.invokevirtual 179, 3) := by decide +kernel
theorem dX11_touched_48 : decode cX11_touched 48 = .ok (.ifCond .eq 7, 3) := by decide +kernel
theorem dX11_touched_51 : decode cX11_touched 51 = .ok (.iconst 1, 1) := by decide +kernel
theorem dX11_touched_52 : decode cX11_touched 52 = .ok (.istore_n 2, 1) := by decide +kernel
theorem dX11_touched_53 : decode cX11_touched 53 = .ok (.iconst (-1), 1) := by decide +kernel
theorem dX11_touched_54 : decode cX11_touched 54 = .ok (.istore_n 3, 1) := by decide +kernel
theorem dX11_touched_55 : decode cX11_touched 55 = .ok (.iconst 0, 1) := by decide +kernel
theorem dX11_touched_56 : decode cX11_touched 56 = .ok (.istore 4, 2) := by decide +kernel
theorem dX11_touched_58 : decode cX11_touched 58 = .ok (.iload 4, 2) := by decide +kernel
theorem dX11_touched_60 : decode cX11_touched 60 = .ok (.bipush 25, 2) := by decide +kernel
theorem dX11_touched_62 : decode cX11_touched 62 = .ok (.if_icmp .ge 40, 3) := by decide +kernel
theorem dX11_touched_65 : decode cX11_touched 65 = .ok (.aload_n 0, 1) := by decide +kernel
theorem dX11_touched_66 : decode cX11_touched 66 = .ok (.iload 4, 2) := by decide +kernel
theorem dX11_touched_68 : decode cX11_touched 68 = .ok (.iconst 5, 1) := by decide +kernel
theorem dX11_touched_69 : decode cX11_touched 69 = .ok (.idiv, 1) := by decide +kernel
theorem dX11_touched_70 : decode cX11_touched 70 = .ok (.iload 4, 2) := by decide +kernel
theorem dX11_touched_72 : decode cX11_touched 72 = .ok (.iconst 5, 1) := by decide +kernel
theorem dX11_touched_73 : decode cX11_touched 73 = .ok (.irem, 1) := by decide +kernel
theorem dX11_touched_74 : decode cX11_touched 74 = .ok (.invokevirtual 183, 3) := by decide +kernel
theorem dX11_touched_77 : decode cX11_touched 77 = .ok (.ifCond .eq 19, 3) := by decide +kernel
theorem dX11_touched_80 : decode cX11_touched 80 = .ok (.iinc 2 1, 3) := by decide +kernel
theorem dX11_touched_83 : decode cX11_touched 83 = .ok (.iload_n 3, 1) := by decide +kernel
theorem dX11_touched_84 : decode cX11_touched 84 = .ok (.bipush (-2), 2) := by decide +kernel
theorem dX11_touched_86 : decode cX11_touched 86 = .ok (.if_icmp .ne 8, 3) := by decide +kernel
theorem dX11_touched_89 : decode cX11_touched 89 = .ok (.iload 4, 2) := by decide +kernel
theorem dX11_touched_91 : decode cX11_touched 91 = .ok (.goto 4, 3) := by decide +kernel
theorem dX11_touched_94 : decode cX11_touched 94 = .ok (.iload_n 3, 1) := by decide +kernel
theorem dX11_touched_95 : decode cX11_touched 95 = .ok (.istore_n 3, 1) := by decide +kernel
theorem dX11_touched_96 : decode cX11_touched 96 = .ok (.iinc 4 1, 3) := by decide +kernel
theorem dX11_touched_99 : decode cX11_touched 99 = .ok (.goto (-41), 3) := by decide +kernel
theorem dX11_touched_102 : decode cX11_touched 102 = .ok (.iload_n 1, 1) := by decide +kernel
theorem dX11_touched_103 : decode cX11_touched 103 = .ok (.ifCond .ne 7, 3) := by decide +kernel
theorem dX11_touched_106 : decode cX11_touched 106 = .ok (.iload_n 2, 1) := by decide +kernel
theorem dX11_touched_107 : decode cX11_touched 107 = .ok (.goto 4, 3) := by decide +kernel
theorem dX11_touched_110 : decode cX11_touched 110 = .ok (.iload_n 3, 1) := by decide +kernel
theorem dX11_touched_111 : decode cX11_touched 111 = .ok (.ireturn, 1) := by decide +kernel
theorem dX11_explainsHeard_0 : decode cX11_explainsHeard 0 = .ok (.aload_n 0, 1) := by decide +kernel
theorem dX11_explainsHeard_1 : decode cX11_explainsHeard 1 = .ok (.getfield 27, 3) := by decide +kernel
theorem dX11_explainsHeard_4 : decode cX11_explainsHeard 4 = .ok (.iload_n 1, 1) := by decide +kernel
theorem dX11_explainsHeard_5 : decode cX11_explainsHeard 5 = .ok (.invokevirtual 81, 3) := by decide +kernel
theorem dX11_explainsHeard_8 : decode cX11_explainsHeard 8 = .ok (.ifCond .eq 31, 3) := by decide +kernel
theorem dX11_explainsHeard_11 : decode cX11_explainsHeard 11 = .ok (.aload_n 0, 1) := by decide +kernel
theorem dX11_explainsHeard_12 : decode cX11_explainsHeard 12 = .ok (.getfield 27, 3) := by decide +kernel
theorem dX11_explainsHeard_15 : decode cX11_explainsHeard 15 = .ok (.iload_n 2, 1) := by decide +kernel
theorem dX11_explainsHeard_16 : decode cX11_explainsHeard 16 = .ok (.invokevirtual 81, 3) := by decide +kernel
theorem dX11_explainsHeard_19 : decode cX11_explainsHeard 19 = .ok (.ifCond .eq 20, 3) := by decide +kernel
theorem dX11_explainsHeard_22 : decode cX11_explainsHeard 22 = .ok (.iload_n 1, 1) := by decide +kernel
theorem dX11_explainsHeard_23 : decode cX11_explainsHeard 23 = .ok (.iload_n 2, 1) := by decide +kernel
theorem dX11_explainsHeard_24 : decode cX11_explainsHeard 24 = .ok (.if_icmp .eq 15, 3) := by decide +kernel
theorem dX11_explainsHeard_27 : decode cX11_explainsHeard 27 = .ok (.aload_n 0, 1) := by decide +kernel
theorem dX11_explainsHeard_28 : decode cX11_explainsHeard 28 = .ok (.getfield 27, 3) := by decide +kernel
theorem dX11_explainsHeard_31 : decode cX11_explainsHeard 31 = .ok (.iload_n 1, 1) := by decide +kernel
theorem dX11_explainsHeard_32 : decode cX11_explainsHeard 32 = .ok (.iload_n 2, 1) := by decide +kernel
theorem dX11_explainsHeard_33 : decode cX11_explainsHeard 33 = .ok (.invokevirtual 187, 3) := by decide +kernel
theorem dX11_explainsHeard_36 : decode cX11_explainsHeard 36 = .ok (.ifCond .eq 5, 3) := by decide +kernel
theorem dX11_explainsHeard_39 : decode cX11_explainsHeard 39 = .ok (.iconst 0, 1) := by decide +kernel
theorem dX11_explainsHeard_40 : decode cX11_explainsHeard 40 = .ok (.ireturn, 1) := by decide +kernel
theorem dX11_explainsHeard_41 : decode cX11_explainsHeard 41 = .ok (.aload_n 0, 1) := by decide +kernel
theorem dX11_explainsHeard_42 : decode cX11_explainsHeard 42 = .ok (.getfield 19, 3) := by decide +kernel
theorem dX11_explainsHeard_45 : decode cX11_explainsHeard 45 = .ok (.invokevirtual 141, 3) := by decide +kernel
theorem dX11_explainsHeard_48 : decode cX11_explainsHeard 48 = .ok (.aload_n 0, 1) := by decide +kernel
theorem dX11_explainsHeard_49 : decode cX11_explainsHeard 49 = .ok (.getfield 19, 3) := by decide +kernel
theorem dX11_explainsHeard_52 : decode cX11_explainsHeard 52 = .ok (.iload_n 1, 1) := by decide +kernel
theorem dX11_explainsHeard_53 : decode cX11_explainsHeard 53 = .ok (.iload_n 2, 1) := by decide +kernel
theorem dX11_explainsHeard_54 : decode cX11_explainsHeard 54 = .ok (.invokevirtual 190, 3) := by decide +kernel
theorem dX11_explainsHeard_57 : decode cX11_explainsHeard 57 = .ok (.aload_n 0, 1) := by decide +kernel
theorem dX11_explainsHeard_58 : decode cX11_explainsHeard 58 = .ok (.getfield 19, 3) := by decide +kernel
theorem dX11_explainsHeard_61 : decode cX11_explainsHeard 61 = .ok (.invokevirtual 152, 3) := by decide +kernel
theorem dX11_explainsHeard_64 : decode cX11_explainsHeard 64 = .ok (.aload_n 0, 1) := by decide +kernel
theorem dX11_explainsHeard_65 : decode cX11_explainsHeard 65 = .ok (.getfield 31, 3) := by decide +kernel
theorem dX11_explainsHeard_68 : decode cX11_explainsHeard 68 = .ok (.aload_n 0, 1) := by decide +kernel
theorem dX11_explainsHeard_69 : decode cX11_explainsHeard 69 = .ok (.getfield 19, 3) := by decide +kernel
theorem dX11_explainsHeard_72 : decode cX11_explainsHeard 72 = .ok (.invokevirtual 179, 3) := by decide +kernel
theorem dX11_explainsHeard_75 : decode cX11_explainsHeard 75 = .ok (.ireturn, 1) := by decide +kernel
theorem dX11_sales_0 : decode cX11_sales 0 = .ok (.iload_n 1, 1) := by decide +kernel
theorem dX11_sales_1 : decode cX11_sales 1 = .ok (.iconst 1, 1) := by decide +kernel
theorem dX11_sales_2 : decode cX11_sales 2 = .ok (.if_icmp .lt 22, 3) := by decide +kernel
theorem dX11_sales_5 : decode cX11_sales 5 = .ok (.iload_n 1, 1) := by decide +kernel
theorem dX11_sales_6 : decode cX11_sales 6 = .ok (.bipush 60, 2) := by decide +kernel
theorem dX11_sales_8 : decode cX11_sales 8 = .ok (.if_icmp .gt 16, 3) := by decide +kernel
theorem dX11_sales_11 : decode cX11_sales 11 = .ok (.iload_n 2, 1) := by decide +kernel
theorem dX11_sales_12 : decode cX11_sales 12 = .ok (.ifCond .lt 12, 3) := by decide +kernel
theorem dX11_sales_15 : decode cX11_sales 15 = .ok (.iload_n 3, 1) := by decide +kernel
theorem dX11_sales_16 : decode cX11_sales 16 = .ok (.ifCond .lt 8, 3) := by decide +kernel
theorem dX11_sales_19 : decode cX11_sales 19 = .ok (.iload_n 3, 1) := by decide +kernel
theorem dX11_sales_20 : decode cX11_sales 20 = .ok (.iconst 2, 1) := by decide +kernel
theorem dX11_sales_21 : decode cX11_sales 21 = .ok (.if_icmp .le 6, 3) := by decide +kernel
theorem dX11_sales_24 : decode cX11_sales 24 = .ok (.bipush (-102), 2) := by decide +kernel
theorem dX11_sales_26 : decode cX11_sales 26 = .ok (.ireturn, 1) := by decide +kernel
theorem dX11_sales_27 : decode cX11_sales 27 = .ok (.aload_n 0, 1) := by decide +kernel
theorem dX11_sales_28 : decode cX11_sales 28 = .ok (.getfield 27, 3) := by decide +kernel
theorem dX11_sales_31 : decode cX11_sales 31 = .ok (.getfield 78, 3) := by decide +kernel
theorem dX11_sales_34 : decode cX11_sales 34 = .ok (.ifCond .ne 6, 3) := by decide +kernel
theorem dX11_sales_37 : decode cX11_sales 37 = .ok (.bipush (-103), 2) := by decide +kernel
theorem dX11_sales_39 : decode cX11_sales 39 = .ok (.ireturn, 1) := by decide +kernel
theorem dX11_sales_40 : decode cX11_sales 40 = .ok (.iconst 0, 1) := by decide +kernel
theorem dX11_sales_41 : decode cX11_sales 41 = .ok (.istore 4, 2) := by decide +kernel
theorem dX11_sales_43 : decode cX11_sales 43 = .ok (.iconst 0, 1) := by decide +kernel
theorem dX11_sales_44 : decode cX11_sales 44 = .ok (.istore 5, 2) := by decide +kernel
theorem dX11_sales_46 : decode cX11_sales 46 = .ok (.iload_n 2, 1) := by decide +kernel
theorem dX11_sales_47 : decode cX11_sales 47 = .ok (.istore 6, 2) := by decide +kernel
theorem dX11_sales_49 : decode cX11_sales 49 = .ok (.aload_n 0, 1) := by decide +kernel
theorem dX11_sales_50 : decode cX11_sales 50 = .ok (.getfield 19, 3) := by decide +kernel
theorem dX11_sales_53 : decode cX11_sales 53 = .ok (.invokevirtual 141, 3) := by decide +kernel
theorem dX11_sales_56 : decode cX11_sales 56 = .ok (.iconst 0, 1) := by decide +kernel
theorem dX11_sales_57 : decode cX11_sales 57 = .ok (.istore 7, 2) := by decide +kernel
theorem dX11_sales_59 : decode cX11_sales 59 = .ok (.iload 7, 2) := by decide +kernel
theorem dX11_sales_61 : decode cX11_sales 61 = .ok (.iload_n 1, 1) := by decide +kernel
theorem dX11_sales_62 : decode cX11_sales 62 = .ok (.if_icmp .ge 57, 3) := by decide +kernel
theorem dX11_sales_65 : decode cX11_sales 65 = .ok (.aload_n 0, 1) := by decide +kernel
theorem dX11_sales_66 : decode cX11_sales 66 = .ok (.iload 6, 2) := by decide +kernel
theorem dX11_sales_68 : decode cX11_sales 68 = .ok (.invokevirtual 193, 3) := by decide +kernel
theorem dX11_sales_71 : decode cX11_sales 71 = .ok (.istore 6, 2) := by decide +kernel
theorem dX11_sales_73 : decode cX11_sales 73 = .ok (.aload_n 0, 1) := by decide +kernel
theorem dX11_sales_74 : decode cX11_sales 74 = .ok (.getfield 19, 3) := by decide +kernel
theorem dX11_sales_77 : decode cX11_sales 77 = .ok (.invokevirtual 152, 3) := by decide +kernel
theorem dX11_sales_80 : decode cX11_sales 80 = .ok (.aload_n 0, 1) := by decide +kernel
theorem dX11_sales_81 : decode cX11_sales 81 = .ok (.getfield 19, 3) := by decide +kernel
theorem dX11_sales_84 : decode cX11_sales 84 = .ok (.getfield 138, 3) := by decide +kernel
theorem dX11_sales_87 : decode cX11_sales 87 = .ok (.iconst (-1), 1) := by decide +kernel
theorem dX11_sales_88 : decode cX11_sales 88 = .ok (.if_icmp .eq 25, 3) := by decide +kernel
theorem dX11_sales_91 : decode cX11_sales 91 = .ok (.iinc 4 1, 3) := by decide +kernel
theorem dX11_sales_94 : decode cX11_sales 94 = .ok (.iload 5, 2) := by decide +kernel
theorem dX11_sales_96 : decode cX11_sales 96 = .ok (.aload_n 0, 1) := by decide +kernel
theorem dX11_sales_97 : decode cX11_sales 97 = .ok (.getfield 19, 3) := by decide +kernel
theorem dX11_sales_100 : decode cX11_sales 100 = .ok (.aload_n 0, 1) := by decide +kernel
theorem dX11_sales_101 : decode cX11_sales 101 = .ok (.getfield 19, 3) := by decide +kernel
theorem dX11_sales_104 : decode cX11_sales 104 = .ok (.getfield 138, 3) := by decide +kernel
theorem dX11_sales_107 : decode cX11_sales 107 = .ok (.invokevirtual 116, 3) := by decide +kernel
theorem dX11_sales_110 : decode cX11_sales 110 = .ok (.iadd, 1) := by decide +kernel
theorem dX11_sales_111 : decode cX11_sales 111 = .ok (.istore 5, 2) := by decide +kernel
theorem dX11_sales_113 : decode cX11_sales 113 = .ok (.iinc 7 1, 3) := by decide +kernel
theorem dX11_sales_116 : decode cX11_sales 116 = .ok (.goto (-57), 3) := by decide +kernel
theorem dX11_sales_119 : decode cX11_sales 119 = .ok (.iload_n 3, 1) := by decide +kernel
theorem dX11_sales_120 : decode cX11_sales 120 = .ok (.lookupswitch 34 #[(0, 28), (1, 31)], 28) := by decide +kernel
theorem dX11_sales_148 : decode cX11_sales 148 = .ok (.iload 4, 2) := by decide +kernel
theorem dX11_sales_150 : decode cX11_sales 150 = .ok (.ireturn, 1) := by decide +kernel
theorem dX11_sales_151 : decode cX11_sales 151 = .ok (.iload 5, 2) := by decide +kernel
theorem dX11_sales_153 : decode cX11_sales 153 = .ok (.ireturn, 1) := by decide +kernel
theorem dX11_sales_154 : decode cX11_sales 154 = .ok (.iload 6, 2) := by decide +kernel
theorem dX11_sales_156 : decode cX11_sales 156 = .ok (.ireturn, 1) := by decide +kernel
theorem dX11_supposeDrawnChoices_0 : decode cX11_supposeDrawnChoices 0 = .ok (.iload_n 1, 1) := by decide +kernel
theorem dX11_supposeDrawnChoices_1 : decode cX11_supposeDrawnChoices 1 = .ok (.istore_n 2, 1) := by decide +kernel
theorem dX11_supposeDrawnChoices_2 : decode cX11_supposeDrawnChoices 2 = .ok (.iconst 0, 1) := by decide +kernel
theorem dX11_supposeDrawnChoices_3 : decode cX11_supposeDrawnChoices 3 = .ok (.istore_n 3, 1) := by decide +kernel
theorem dX11_supposeDrawnChoices_4 : decode cX11_supposeDrawnChoices 4 = .ok (.iload_n 3, 1) := by decide +kernel
theorem dX11_supposeDrawnChoices_5 : decode cX11_supposeDrawnChoices 5 = .ok (.aload_n 0, 1) := by decide +kernel
theorem dX11_supposeDrawnChoices_6 : decode cX11_supposeDrawnChoices 6 = .ok (.getfield 27, 3) := by decide +kernel
theorem dX11_supposeDrawnChoices_9 : decode cX11_supposeDrawnChoices 9 = .ok (.getfield 78, 3) := by decide +kernel
theorem dX11_supposeDrawnChoices_12 : decode cX11_supposeDrawnChoices 12 = .ok (.if_icmp .ge 42, 3) := by decide +kernel
theorem dX11_supposeDrawnChoices_15 : decode cX11_supposeDrawnChoices 15 = .ok (.ldc2_w 196, 3) := by decide +kernel
theorem dX11_supposeDrawnChoices_18 : decode cX11_supposeDrawnChoices 18 = .ok (.iload_n 2, 1) := by decide +kernel
theorem dX11_supposeDrawnChoices_19 : decode cX11_supposeDrawnChoices 19 = .ok (.i2l, 1) := by decide +kernel
theorem dX11_supposeDrawnChoices_20 : decode cX11_supposeDrawnChoices 20 = .ok (.lmul, 1) := by decide +kernel
theorem dX11_supposeDrawnChoices_21 : decode cX11_supposeDrawnChoices 21 = .ok (.ldc2_w 198, 3) := by decide +kernel
theorem dX11_supposeDrawnChoices_24 : decode cX11_supposeDrawnChoices 24 = .ok (.ladd, 1) := by decide +kernel
theorem dX11_supposeDrawnChoices_25 : decode cX11_supposeDrawnChoices 25 = .ok (.ldc2_w 200, 3) := by decide +kernel
theorem dX11_supposeDrawnChoices_28 : decode cX11_supposeDrawnChoices 28 = .ok (.land, 1) := by decide +kernel
theorem dX11_supposeDrawnChoices_29 : decode cX11_supposeDrawnChoices 29 = .ok (.l2i, 1) := by decide +kernel
theorem dX11_supposeDrawnChoices_30 : decode cX11_supposeDrawnChoices 30 = .ok (.istore_n 2, 1) := by decide +kernel
theorem dX11_supposeDrawnChoices_31 : decode cX11_supposeDrawnChoices 31 = .ok (.aload_n 0, 1) := by decide +kernel
theorem dX11_supposeDrawnChoices_32 : decode cX11_supposeDrawnChoices 32 = .ok (.getfield 19, 3) := by decide +kernel
theorem dX11_supposeDrawnChoices_35 : decode cX11_supposeDrawnChoices 35 = .ok (.iload_n 3, 1) := by decide +kernel
theorem dX11_supposeDrawnChoices_36 : decode cX11_supposeDrawnChoices 36 = .ok (.iconst 1, 1) := by decide +kernel
theorem dX11_supposeDrawnChoices_37 : decode cX11_supposeDrawnChoices 37 = .ok (.iload_n 2, 1) := by decide +kernel
theorem dX11_supposeDrawnChoices_38 : decode cX11_supposeDrawnChoices 38 = .ok (.ldc 202, 2) := by decide +kernel
theorem dX11_supposeDrawnChoices_40 : decode cX11_supposeDrawnChoices 40 = .ok (.idiv, 1) := by decide +kernel
theorem dX11_supposeDrawnChoices_41 : decode cX11_supposeDrawnChoices 41 = .ok (.bipush 9, 2) := by decide +kernel
theorem dX11_supposeDrawnChoices_43 : decode cX11_supposeDrawnChoices 43 = .ok (.irem, 1) := by decide +kernel
theorem dX11_supposeDrawnChoices_44 : decode cX11_supposeDrawnChoices 44 = .ok (.iadd, 1) := by decide +kernel
theorem dX11_supposeDrawnChoices_45 : decode cX11_supposeDrawnChoices 45 = .ok (.invokevirtual 148, 3) := by decide +kernel
theorem dX11_supposeDrawnChoices_48 : decode cX11_supposeDrawnChoices 48 = .ok (.iinc 3 1, 3) := by decide +kernel
theorem dX11_supposeDrawnChoices_51 : decode cX11_supposeDrawnChoices 51 = .ok (.goto (-47), 3) := by decide +kernel
theorem dX11_supposeDrawnChoices_54 : decode cX11_supposeDrawnChoices 54 = .ok (.iload_n 2, 1) := by decide +kernel
theorem dX11_supposeDrawnChoices_55 : decode cX11_supposeDrawnChoices 55 = .ok (.ireturn, 1) := by decide +kernel
theorem dX11_image_0 : decode cX11_image 0 = .ok (.aload_n 0, 1) := by decide +kernel
theorem dX11_image_1 : decode cX11_image 1 = .ok (.getfield 27, 3) := by decide +kernel
theorem dX11_image_4 : decode cX11_image 4 = .ok (.getfield 78, 3) := by decide +kernel
theorem dX11_image_7 : decode cX11_image 7 = .ok (.ifCond .ne 6, 3) := by decide +kernel
theorem dX11_image_10 : decode cX11_image 10 = .ok (.bipush (-103), 2) := by decide +kernel
theorem dX11_image_12 : decode cX11_image 12 = .ok (.ireturn, 1) := by decide +kernel
theorem dX11_image_13 : decode cX11_image 13 = .ok (.aload_n 0, 1) := by decide +kernel
theorem dX11_image_14 : decode cX11_image 14 = .ok (.getfield 38, 3) := by decide +kernel
theorem dX11_image_17 : decode cX11_image 17 = .ok (.aload_n 0, 1) := by decide +kernel
theorem dX11_image_18 : decode cX11_image 18 = .ok (.getfield 27, 3) := by decide +kernel
theorem dX11_image_21 : decode cX11_image 21 = .ok (.aload_n 0, 1) := by decide +kernel
theorem dX11_image_22 : decode cX11_image 22 = .ok (.getfield 31, 3) := by decide +kernel
theorem dX11_image_25 : decode cX11_image 25 = .ok (.aload_n 0, 1) := by decide +kernel
theorem dX11_image_26 : decode cX11_image 26 = .ok (.getfield 75, 3) := by decide +kernel
theorem dX11_image_29 : decode cX11_image 29 = .ok (.invokevirtual 203, 3) := by decide +kernel
theorem dX11_image_32 : decode cX11_image 32 = .ok (.aload_n 0, 1) := by decide +kernel
theorem dX11_image_33 : decode cX11_image 33 = .ok (.getfield 27, 3) := by decide +kernel
theorem dX11_image_36 : decode cX11_image 36 = .ok (.getfield 78, 3) := by decide +kernel
theorem dX11_image_39 : decode cX11_image 39 = .ok (.ireturn, 1) := by decide +kernel
theorem dX11_restore_0 : decode cX11_restore 0 = .ok (.aload_n 0, 1) := by decide +kernel
theorem dX11_restore_1 : decode cX11_restore 1 = .ok (.getfield 38, 3) := by decide +kernel
theorem dX11_restore_4 : decode cX11_restore 4 = .ok (.aload_n 0, 1) := by decide +kernel
theorem dX11_restore_5 : decode cX11_restore 5 = .ok (.getfield 75, 3) := by decide +kernel
theorem dX11_restore_8 : decode cX11_restore 8 = .ok (.invokevirtual 207, 3) := by decide +kernel
theorem dX11_restore_11 : decode cX11_restore 11 = .ok (.ifCond .ne 6, 3) := by decide +kernel
theorem dX11_restore_14 : decode cX11_restore 14 = .ok (.bipush (-103), 2) := by decide +kernel
theorem dX11_restore_16 : decode cX11_restore 16 = .ok (.ireturn, 1) := by decide +kernel
theorem dX11_restore_17 : decode cX11_restore 17 = .ok (.aload_n 0, 1) := by decide +kernel
theorem dX11_restore_18 : decode cX11_restore 18 = .ok (.getfield 38, 3) := by decide +kernel
theorem dX11_restore_21 : decode cX11_restore 21 = .ok (.aload_n 0, 1) := by decide +kernel
theorem dX11_restore_22 : decode cX11_restore 22 = .ok (.getfield 27, 3) := by decide +kernel
theorem dX11_restore_25 : decode cX11_restore 25 = .ok (.aload_n 0, 1) := by decide +kernel
theorem dX11_restore_26 : decode cX11_restore 26 = .ok (.getfield 31, 3) := by decide +kernel
theorem dX11_restore_29 : decode cX11_restore 29 = .ok (.invokevirtual 210, 3) := by decide +kernel
theorem dX11_restore_32 : decode cX11_restore 32 = .ok (.aload_n 0, 1) := by decide +kernel
theorem dX11_restore_33 : decode cX11_restore 33 = .ok (.getfield 27, 3) := by decide +kernel
theorem dX11_restore_36 : decode cX11_restore 36 = .ok (.getfield 78, 3) := by decide +kernel
theorem dX11_restore_39 : decode cX11_restore 39 = .ok (.ireturn, 1) := by decide +kernel
theorem dX11_count_0 : decode cX11_count 0 = .ok (.iload_n 1, 1) := by decide +kernel
theorem dX11_count_1 : decode cX11_count 1 = .ok (.tableswitch 105 0 7 #[47, 55, 63, 71, 79, 87, 95, 100], 47) := by decide +kernel
theorem dX11_count_48 : decode cX11_count 48 = .ok (.aload_n 0, 1) := by decide +kernel
theorem dX11_count_49 : decode cX11_count 49 = .ok (.getfield 27, 3) := by decide +kernel
theorem dX11_count_52 : decode cX11_count 52 = .ok (.getfield 78, 3) := by decide +kernel
theorem dX11_count_55 : decode cX11_count 55 = .ok (.ireturn, 1) := by decide +kernel
theorem dX11_count_56 : decode cX11_count 56 = .ok (.aload_n 0, 1) := by decide +kernel
theorem dX11_count_57 : decode cX11_count 57 = .ok (.getfield 27, 3) := by decide +kernel
theorem dX11_count_60 : decode cX11_count 60 = .ok (.getfield 214, 3) := by decide +kernel
theorem dX11_count_63 : decode cX11_count 63 = .ok (.ireturn, 1) := by decide +kernel
theorem dX11_count_64 : decode cX11_count 64 = .ok (.aload_n 0, 1) := by decide +kernel
theorem dX11_count_65 : decode cX11_count 65 = .ok (.getfield 27, 3) := by decide +kernel
theorem dX11_count_68 : decode cX11_count 68 = .ok (.invokevirtual 217, 3) := by decide +kernel
theorem dX11_count_71 : decode cX11_count 71 = .ok (.ireturn, 1) := by decide +kernel
theorem dX11_count_72 : decode cX11_count 72 = .ok (.aload_n 0, 1) := by decide +kernel
theorem dX11_count_73 : decode cX11_count 73 = .ok (.getfield 27, 3) := by decide +kernel
theorem dX11_count_76 : decode cX11_count 76 = .ok (.invokevirtual 220, 3) := by decide +kernel
theorem dX11_count_79 : decode cX11_count 79 = .ok (.ireturn, 1) := by decide +kernel
theorem dX11_count_80 : decode cX11_count 80 = .ok (.aload_n 0, 1) := by decide +kernel
theorem dX11_count_81 : decode cX11_count 81 = .ok (.getfield 31, 3) := by decide +kernel
theorem dX11_count_84 : decode cX11_count 84 = .ok (.getfield 72, 3) := by decide +kernel
theorem dX11_count_87 : decode cX11_count 87 = .ok (.ireturn, 1) := by decide +kernel
theorem dX11_count_88 : decode cX11_count 88 = .ok (.aload_n 0, 1) := by decide +kernel
theorem dX11_count_89 : decode cX11_count 89 = .ok (.getfield 10, 3) := by decide +kernel
theorem dX11_count_92 : decode cX11_count 92 = .ok (.getfield 57, 3) := by decide +kernel
theorem dX11_count_95 : decode cX11_count 95 = .ok (.ireturn, 1) := by decide +kernel
theorem dX11_count_96 : decode cX11_count 96 = .ok (.aload_n 0, 1) := by decide +kernel
theorem dX11_count_97 : decode cX11_count 97 = .ok (.getfield 75, 3) := by decide +kernel
theorem dX11_count_100 : decode cX11_count 100 = .ok (.ireturn, 1) := by decide +kernel
theorem dX11_count_101 : decode cX11_count 101 = .ok (.aload_n 0, 1) := by decide +kernel
theorem dX11_count_102 : decode cX11_count 102 = .ok (.getfield 155, 3) := by decide +kernel
theorem dX11_count_105 : decode cX11_count 105 = .ok (.ireturn, 1) := by decide +kernel
theorem dX11_count_106 : decode cX11_count 106 = .ok (.bipush (-102), 2) := by decide +kernel
theorem dX11_count_108 : decode cX11_count 108 = .ok (.ireturn, 1) := by decide +kernel
theorem dX11_digest_0 : decode cX11_digest 0 = .ok (.ldc2_w 223, 3) := by decide +kernel
theorem dX11_digest_3 : decode cX11_digest 3 = .ok (.lstore_n 1, 1) := by decide +kernel
theorem dX11_digest_4 : decode cX11_digest 4 = .ok (.iconst 0, 1) := by decide +kernel
theorem dX11_digest_5 : decode cX11_digest 5 = .ok (.istore_n 3, 1) := by decide +kernel
theorem dX11_digest_6 : decode cX11_digest 6 = .ok (.iload_n 3, 1) := by decide +kernel
theorem dX11_digest_7 : decode cX11_digest 7 = .ok (.iconst 2, 1) := by decide +kernel
theorem dX11_digest_8 : decode cX11_digest 8 = .ok (.if_icmp .gt 32, 3) := by decide +kernel
theorem dX11_digest_11 : decode cX11_digest 11 = .ok (.aload_n 0, 1) := by decide +kernel
theorem dX11_digest_12 : decode cX11_digest 12 = .ok (.getfield 27, 3) := by decide +kernel
theorem dX11_digest_15 : decode cX11_digest 15 = .ok (.getfield 78, 3) := by decide +kernel
theorem dX11_digest_18 : decode cX11_digest 18 = .ok (.ifCond .le 22, 3) := by decide +kernel
theorem dX11_digest_21 : decode cX11_digest 21 = .ok (.ldc2_w 225, 3) := by decide +kernel
theorem dX11_digest_24 : decode cX11_digest 24 = .ok (.lload_n 1, 1) := by decide +kernel
theorem dX11_digest_25 : decode cX11_digest 25 = .ok (.lmul, 1) := by decide +kernel
theorem dX11_digest_26 : decode cX11_digest 26 = .ok (.aload_n 0, 1) := by decide +kernel
theorem dX11_digest_27 : decode cX11_digest 27 = .ok (.iload_n 3, 1) := by decide +kernel
theorem dX11_digest_28 : decode cX11_digest 28 = .ok (.invokevirtual 227, 3) := by decide +kernel
theorem dX11_digest_31 : decode cX11_digest 31 = .ok (.i2l, 1) := by decide +kernel
theorem dX11_digest_32 : decode cX11_digest 32 = .ok (.ladd, 1) := by decide +kernel
theorem dX11_digest_33 : decode cX11_digest 33 = .ok (.lstore_n 1, 1) := by decide +kernel
theorem dX11_digest_34 : decode cX11_digest 34 = .ok (.iinc 3 1, 3) := by decide +kernel
theorem dX11_digest_37 : decode cX11_digest 37 = .ok (.goto (-31), 3) := by decide +kernel
theorem dX11_digest_40 : decode cX11_digest 40 = .ok (.iconst 0, 1) := by decide +kernel
theorem dX11_digest_41 : decode cX11_digest 41 = .ok (.istore_n 3, 1) := by decide +kernel
theorem dX11_digest_42 : decode cX11_digest 42 = .ok (.iload_n 3, 1) := by decide +kernel
theorem dX11_digest_43 : decode cX11_digest 43 = .ok (.iconst 1, 1) := by decide +kernel
theorem dX11_digest_44 : decode cX11_digest 44 = .ok (.if_icmp .gt 32, 3) := by decide +kernel
theorem dX11_digest_47 : decode cX11_digest 47 = .ok (.aload_n 0, 1) := by decide +kernel
theorem dX11_digest_48 : decode cX11_digest 48 = .ok (.getfield 27, 3) := by decide +kernel
theorem dX11_digest_51 : decode cX11_digest 51 = .ok (.getfield 78, 3) := by decide +kernel
theorem dX11_digest_54 : decode cX11_digest 54 = .ok (.ifCond .le 22, 3) := by decide +kernel
theorem dX11_digest_57 : decode cX11_digest 57 = .ok (.ldc2_w 225, 3) := by decide +kernel
theorem dX11_digest_60 : decode cX11_digest 60 = .ok (.lload_n 1, 1) := by decide +kernel
theorem dX11_digest_61 : decode cX11_digest 61 = .ok (.lmul, 1) := by decide +kernel
theorem dX11_digest_62 : decode cX11_digest 62 = .ok (.aload_n 0, 1) := by decide +kernel
theorem dX11_digest_63 : decode cX11_digest 63 = .ok (.iload_n 3, 1) := by decide +kernel
theorem dX11_digest_64 : decode cX11_digest 64 = .ok (.invokevirtual 230, 3) := by decide +kernel
theorem dX11_digest_67 : decode cX11_digest 67 = .ok (.i2l, 1) := by decide +kernel
theorem dX11_digest_68 : decode cX11_digest 68 = .ok (.ladd, 1) := by decide +kernel
theorem dX11_digest_69 : decode cX11_digest 69 = .ok (.lstore_n 1, 1) := by decide +kernel
theorem dX11_digest_70 : decode cX11_digest 70 = .ok (.iinc 3 1, 3) := by decide +kernel
theorem dX11_digest_73 : decode cX11_digest 73 = .ok (.goto (-31), 3) := by decide +kernel
theorem dX11_digest_76 : decode cX11_digest 76 = .ok (.iconst 0, 1) := by decide +kernel
theorem dX11_digest_77 : decode cX11_digest 77 = .ok (.istore_n 3, 1) := by decide +kernel
theorem dX11_digest_78 : decode cX11_digest 78 = .ok (.iload_n 3, 1) := by decide +kernel
theorem dX11_digest_79 : decode cX11_digest 79 = .ok (.aload_n 0, 1) := by decide +kernel
theorem dX11_digest_80 : decode cX11_digest 80 = .ok (.getfield 27, 3) := by decide +kernel
theorem dX11_digest_83 : decode cX11_digest 83 = .ok (.getfield 78, 3) := by decide +kernel
theorem dX11_digest_86 : decode cX11_digest 86 = .ok (.if_icmp .ge 16, 3) := by decide +kernel
theorem dX11_digest_89 : decode cX11_digest 89 = .ok (.aload_n 0, 1) := by decide +kernel
theorem dX11_digest_90 : decode cX11_digest 90 = .ok (.lload_n 1, 1) := by decide +kernel
theorem dX11_digest_91 : decode cX11_digest 91 = .ok (.iload_n 3, 1) := by decide +kernel
theorem dX11_digest_92 : decode cX11_digest 92 = .ok (.invokevirtual 233, 3) := by decide +kernel
theorem dX11_digest_95 : decode cX11_digest 95 = .ok (.lstore_n 1, 1) := by decide +kernel
theorem dX11_digest_96 : decode cX11_digest 96 = .ok (.iinc 3 1, 3) := by decide +kernel
theorem dX11_digest_99 : decode cX11_digest 99 = .ok (.goto (-21), 3) := by decide +kernel
theorem dX11_digest_102 : decode cX11_digest 102 = .ok (.iconst 0, 1) := by decide +kernel
theorem dX11_digest_103 : decode cX11_digest 103 = .ok (.istore_n 3, 1) := by decide +kernel
theorem dX11_digest_104 : decode cX11_digest 104 = .ok (.iload_n 3, 1) := by decide +kernel
theorem dX11_digest_105 : decode cX11_digest 105 = .ok (.aload_n 0, 1) := by decide +kernel
theorem dX11_digest_106 : decode cX11_digest 106 = .ok (.getfield 10, 3) := by decide +kernel
theorem dX11_digest_109 : decode cX11_digest 109 = .ok (.getfield 57, 3) := by decide +kernel
theorem dX11_digest_112 : decode cX11_digest 112 = .ok (.if_icmp .ge 26, 3) := by decide +kernel
theorem dX11_digest_115 : decode cX11_digest 115 = .ok (.ldc2_w 225, 3) := by decide +kernel
theorem dX11_digest_118 : decode cX11_digest 118 = .ok (.lload_n 1, 1) := by decide +kernel
theorem dX11_digest_119 : decode cX11_digest 119 = .ok (.lmul, 1) := by decide +kernel
theorem dX11_digest_120 : decode cX11_digest 120 = .ok (.aload_n 0, 1) := by decide +kernel
theorem dX11_digest_121 : decode cX11_digest 121 = .ok (.getfield 10, 3) := by decide +kernel
theorem dX11_digest_124 : decode cX11_digest 124 = .ok (.getfield 237, 3) := by decide +kernel
theorem dX11_digest_127 : decode cX11_digest 127 = .ok (.iload_n 3, 1) := by decide +kernel
theorem dX11_digest_128 : decode cX11_digest 128 = .ok (.iaload, 1) := by decide +kernel
theorem dX11_digest_129 : decode cX11_digest 129 = .ok (.i2l, 1) := by decide +kernel
theorem dX11_digest_130 : decode cX11_digest 130 = .ok (.ladd, 1) := by decide +kernel
theorem dX11_digest_131 : decode cX11_digest 131 = .ok (.lstore_n 1, 1) := by decide +kernel
theorem dX11_digest_132 : decode cX11_digest 132 = .ok (.iinc 3 1, 3) := by decide +kernel
theorem dX11_digest_135 : decode cX11_digest 135 = .ok (.goto (-31), 3) := by decide +kernel
theorem dX11_digest_138 : decode cX11_digest 138 = .ok (.iconst 0, 1) := by decide +kernel
theorem dX11_digest_139 : decode cX11_digest 139 = .ok (.istore_n 3, 1) := by decide +kernel
theorem dX11_digest_140 : decode cX11_digest 140 = .ok (.iload_n 3, 1) := by decide +kernel
theorem dX11_digest_141 : decode cX11_digest 141 = .ok (.bipush 7, 2) := by decide +kernel
theorem dX11_digest_143 : decode cX11_digest 143 = .ok (.if_icmp .gt 22, 3) := by decide +kernel
theorem dX11_digest_146 : decode cX11_digest 146 = .ok (.ldc2_w 225, 3) := by decide +kernel
theorem dX11_digest_149 : decode cX11_digest 149 = .ok (.lload_n 1, 1) := by decide +kernel
theorem dX11_digest_150 : decode cX11_digest 150 = .ok (.lmul, 1) := by decide +kernel
theorem dX11_digest_151 : decode cX11_digest 151 = .ok (.aload_n 0, 1) := by decide +kernel
theorem dX11_digest_152 : decode cX11_digest 152 = .ok (.iload_n 3, 1) := by decide +kernel
theorem dX11_digest_153 : decode cX11_digest 153 = .ok (.invokevirtual 240, 3) := by decide +kernel
theorem dX11_digest_156 : decode cX11_digest 156 = .ok (.i2l, 1) := by decide +kernel
theorem dX11_digest_157 : decode cX11_digest 157 = .ok (.ladd, 1) := by decide +kernel
theorem dX11_digest_158 : decode cX11_digest 158 = .ok (.lstore_n 1, 1) := by decide +kernel
theorem dX11_digest_159 : decode cX11_digest 159 = .ok (.iinc 3 1, 3) := by decide +kernel
theorem dX11_digest_162 : decode cX11_digest 162 = .ok (.goto (-22), 3) := by decide +kernel
theorem dX11_digest_165 : decode cX11_digest 165 = .ok (.lload_n 1, 1) := by decide +kernel
theorem dX11_digest_166 : decode cX11_digest 166 = .ok (.lreturn, 1) := by decide +kernel
theorem dX11_digestWith_0 : decode cX11_digestWith 0 = .ok (.lload_n 1, 1) := by decide +kernel
theorem dX11_digestWith_1 : decode cX11_digestWith 1 = .ok (.lstore 4, 2) := by decide +kernel
theorem dX11_digestWith_3 : decode cX11_digestWith 3 = .ok (.iconst 0, 1) := by decide +kernel
theorem dX11_digestWith_4 : decode cX11_digestWith 4 = .ok (.istore 6, 2) := by decide +kernel
theorem dX11_digestWith_6 : decode cX11_digestWith 6 = .ok (.iload 6, 2) := by decide +kernel
theorem dX11_digestWith_8 : decode cX11_digestWith 8 = .ok (.bipush 9, 2) := by decide +kernel
theorem dX11_digestWith_10 : decode cX11_digestWith 10 = .ok (.if_icmp .gt 26, 3) := by decide +kernel
theorem dX11_digestWith_13 : decode cX11_digestWith 13 = .ok (.ldc2_w 225, 3) := by decide +kernel
theorem dX11_digestWith_16 : decode cX11_digestWith 16 = .ok (.lload 4, 2) := by decide +kernel
theorem dX11_digestWith_18 : decode cX11_digestWith 18 = .ok (.lmul, 1) := by decide +kernel
theorem dX11_digestWith_19 : decode cX11_digestWith 19 = .ok (.aload_n 0, 1) := by decide +kernel
theorem dX11_digestWith_20 : decode cX11_digestWith 20 = .ok (.iload_n 3, 1) := by decide +kernel
theorem dX11_digestWith_21 : decode cX11_digestWith 21 = .ok (.iload 6, 2) := by decide +kernel
theorem dX11_digestWith_23 : decode cX11_digestWith 23 = .ok (.invokevirtual 243, 3) := by decide +kernel
theorem dX11_digestWith_26 : decode cX11_digestWith 26 = .ok (.i2l, 1) := by decide +kernel
theorem dX11_digestWith_27 : decode cX11_digestWith 27 = .ok (.ladd, 1) := by decide +kernel
theorem dX11_digestWith_28 : decode cX11_digestWith 28 = .ok (.lstore 4, 2) := by decide +kernel
theorem dX11_digestWith_30 : decode cX11_digestWith 30 = .ok (.iinc 6 1, 3) := by decide +kernel
theorem dX11_digestWith_33 : decode cX11_digestWith 33 = .ok (.goto (-27), 3) := by decide +kernel
theorem dX11_digestWith_36 : decode cX11_digestWith 36 = .ok (.iconst 0, 1) := by decide +kernel
theorem dX11_digestWith_37 : decode cX11_digestWith 37 = .ok (.istore 6, 2) := by decide +kernel
theorem dX11_digestWith_39 : decode cX11_digestWith 39 = .ok (.iload 6, 2) := by decide +kernel
theorem dX11_digestWith_41 : decode cX11_digestWith 41 = .ok (.iconst 1, 1) := by decide +kernel
theorem dX11_digestWith_42 : decode cX11_digestWith 42 = .ok (.if_icmp .gt 26, 3) := by decide +kernel
theorem dX11_digestWith_45 : decode cX11_digestWith 45 = .ok (.ldc2_w 225, 3) := by decide +kernel
theorem dX11_digestWith_48 : decode cX11_digestWith 48 = .ok (.lload 4, 2) := by decide +kernel
theorem dX11_digestWith_50 : decode cX11_digestWith 50 = .ok (.lmul, 1) := by decide +kernel
theorem dX11_digestWith_51 : decode cX11_digestWith 51 = .ok (.aload_n 0, 1) := by decide +kernel
theorem dX11_digestWith_52 : decode cX11_digestWith 52 = .ok (.iload_n 3, 1) := by decide +kernel
theorem dX11_digestWith_53 : decode cX11_digestWith 53 = .ok (.iload 6, 2) := by decide +kernel
theorem dX11_digestWith_55 : decode cX11_digestWith 55 = .ok (.invokevirtual 246, 3) := by decide +kernel
theorem dX11_digestWith_58 : decode cX11_digestWith 58 = .ok (.i2l, 1) := by decide +kernel
theorem dX11_digestWith_59 : decode cX11_digestWith 59 = .ok (.ladd, 1) := by decide +kernel
theorem dX11_digestWith_60 : decode cX11_digestWith 60 = .ok (.lstore 4, 2) := by decide +kernel
theorem dX11_digestWith_62 : decode cX11_digestWith 62 = .ok (.iinc 6 1, 3) := by decide +kernel
theorem dX11_digestWith_65 : decode cX11_digestWith 65 = .ok (.goto (-26), 3) := by decide +kernel
theorem dX11_digestWith_68 : decode cX11_digestWith 68 = .ok (.ldc2_w 225, 3) := by decide +kernel
theorem dX11_digestWith_71 : decode cX11_digestWith 71 = .ok (.lload 4, 2) := by decide +kernel
theorem dX11_digestWith_73 : decode cX11_digestWith 73 = .ok (.lmul, 1) := by decide +kernel
theorem dX11_digestWith_74 : decode cX11_digestWith 74 = .ok (.aload_n 0, 1) := by decide +kernel
theorem dX11_digestWith_75 : decode cX11_digestWith 75 = .ok (.iload_n 3, 1) := by decide +kernel
theorem dX11_digestWith_76 : decode cX11_digestWith 76 = .ok (.invokevirtual 249, 3) := by decide +kernel
theorem dX11_digestWith_79 : decode cX11_digestWith 79 = .ok (.i2l, 1) := by decide +kernel
theorem dX11_digestWith_80 : decode cX11_digestWith 80 = .ok (.ladd, 1) := by decide +kernel
theorem dX11_digestWith_81 : decode cX11_digestWith 81 = .ok (.lreturn, 1) := by decide +kernel
theorem dX12_init_0 : decode cX12_init 0 = .ok (.aload_n 0, 1) := by decide +kernel
theorem dX12_init_1 : decode cX12_init 1 = .ok (.invokespecial 1, 3) := by decide +kernel
theorem dX12_init_4 : decode cX12_init 4 = .ok (.aload_n 0, 1) := by decide +kernel
theorem dX12_init_5 : decode cX12_init 5 = .ok (.iconst 5, 1) := by decide +kernel
theorem dX12_init_6 : decode cX12_init 6 = .ok (.newarray .int, 2) := by decide +kernel
theorem dX12_init_8 : decode cX12_init 8 = .ok (.putfield 7, 3) := by decide +kernel
theorem dX12_init_11 : decode cX12_init 11 = .ok (.aload_n 0, 1) := by decide +kernel
theorem dX12_init_12 : decode cX12_init 12 = .ok (.iconst 5, 1) := by decide +kernel
theorem dX12_init_13 : decode cX12_init 13 = .ok (.newarray .int, 2) := by decide +kernel
theorem dX12_init_15 : decode cX12_init 15 = .ok (.putfield 13, 3) := by decide +kernel
theorem dX12_init_18 : decode cX12_init 18 = .ok (.aload_n 0, 1) := by decide +kernel
theorem dX12_init_19 : decode cX12_init 19 = .ok (.iconst 5, 1) := by decide +kernel
theorem dX12_init_20 : decode cX12_init 20 = .ok (.newarray .int, 2) := by decide +kernel
theorem dX12_init_22 : decode cX12_init 22 = .ok (.putfield 16, 3) := by decide +kernel
theorem dX12_init_25 : decode cX12_init 25 = .ok (.aload_n 0, 1) := by decide +kernel
theorem dX12_init_26 : decode cX12_init 26 = .ok (.iconst 5, 1) := by decide +kernel
theorem dX12_init_27 : decode cX12_init 27 = .ok (.newarray .int, 2) := by decide +kernel
theorem dX12_init_29 : decode cX12_init 29 = .ok (.putfield 19, 3) := by decide +kernel
theorem dX12_init_32 : decode cX12_init 32 = .ok (.aload_n 0, 1) := by decide +kernel
theorem dX12_init_33 : decode cX12_init 33 = .ok (.iconst 5, 1) := by decide +kernel
theorem dX12_init_34 : decode cX12_init 34 = .ok (.newarray .int, 2) := by decide +kernel
theorem dX12_init_36 : decode cX12_init 36 = .ok (.putfield 22, 3) := by decide +kernel
theorem dX12_init_39 : decode cX12_init 39 = .ok (.aload_n 0, 1) := by decide +kernel
theorem dX12_init_40 : decode cX12_init 40 = .ok (.iconst 5, 1) := by decide +kernel
theorem dX12_init_41 : decode cX12_init 41 = .ok (.newarray .int, 2) := by decide +kernel
theorem dX12_init_43 : decode cX12_init 43 = .ok (.putfield 25, 3) := by decide +kernel
theorem dX12_init_46 : decode cX12_init 46 = .ok (.aload_n 0, 1) := by decide +kernel
theorem dX12_init_47 : decode cX12_init 47 = .ok (.bipush 8, 2) := by decide +kernel
theorem dX12_init_49 : decode cX12_init 49 = .ok (.newarray .int, 2) := by decide +kernel
theorem dX12_init_51 : decode cX12_init 51 = .ok (.putfield 28, 3) := by decide +kernel
theorem dX12_init_54 : decode cX12_init 54 = .ok (.aload_n 0, 1) := by decide +kernel
theorem dX12_init_55 : decode cX12_init 55 = .ok (.bipush 8, 2) := by decide +kernel
theorem dX12_init_57 : decode cX12_init 57 = .ok (.newarray .int, 2) := by decide +kernel
theorem dX12_init_59 : decode cX12_init 59 = .ok (.putfield 31, 3) := by decide +kernel
theorem dX12_init_62 : decode cX12_init 62 = .ok (.aload_n 0, 1) := by decide +kernel
theorem dX12_init_63 : decode cX12_init 63 = .ok (.bipush 28, 2) := by decide +kernel
theorem dX12_init_65 : decode cX12_init 65 = .ok (.newarray .byte, 2) := by decide +kernel
theorem dX12_init_67 : decode cX12_init 67 = .ok (.putfield 34, 3) := by decide +kernel
theorem dX12_init_70 : decode cX12_init 70 = .ok (.aload_n 0, 1) := by decide +kernel
theorem dX12_init_71 : decode cX12_init 71 = .ok (.iconst 5, 1) := by decide +kernel
theorem dX12_init_72 : decode cX12_init 72 = .ok (.newarray .int, 2) := by decide +kernel
theorem dX12_init_74 : decode cX12_init 74 = .ok (.putfield 38, 3) := by decide +kernel
theorem dX12_init_77 : decode cX12_init 77 = .ok (.aload_n 0, 1) := by decide +kernel
theorem dX12_init_78 : decode cX12_init 78 = .ok (.iconst 5, 1) := by decide +kernel
theorem dX12_init_79 : decode cX12_init 79 = .ok (.newarray .int, 2) := by decide +kernel
theorem dX12_init_81 : decode cX12_init 81 = .ok (.putfield 41, 3) := by decide +kernel
theorem dX12_init_84 : decode cX12_init 84 = .ok (.aload_n 0, 1) := by decide +kernel
theorem dX12_init_85 : decode cX12_init 85 = .ok (.iconst 5, 1) := by decide +kernel
theorem dX12_init_86 : decode cX12_init 86 = .ok (.newarray .int, 2) := by decide +kernel
theorem dX12_init_88 : decode cX12_init 88 = .ok (.putfield 44, 3) := by decide +kernel
theorem dX12_init_91 : decode cX12_init 91 = .ok (.aload_n 0, 1) := by decide +kernel
theorem dX12_init_92 : decode cX12_init 92 = .ok (.iconst 5, 1) := by decide +kernel
theorem dX12_init_93 : decode cX12_init 93 = .ok (.newarray .int, 2) := by decide +kernel
theorem dX12_init_95 : decode cX12_init 95 = .ok (.putfield 47, 3) := by decide +kernel
theorem dX12_init_98 : decode cX12_init 98 = .ok (.aload_n 0, 1) := by decide +kernel
theorem dX12_init_99 : decode cX12_init 99 = .ok (.iconst 5, 1) := by decide +kernel
theorem dX12_init_100 : decode cX12_init 100 = .ok (.newarray .int, 2) := by decide +kernel
theorem dX12_init_102 : decode cX12_init 102 = .ok (.putfield 50, 3) := by decide +kernel
theorem dX12_init_105 : decode cX12_init 105 = .ok (.aload_n 0, 1) := by decide +kernel
theorem dX12_init_106 : decode cX12_init 106 = .ok (.bipush 8, 2) := by decide +kernel
theorem dX12_init_108 : decode cX12_init 108 = .ok (.newarray .int, 2) := by decide +kernel
theorem dX12_init_110 : decode cX12_init 110 = .ok (.putfield 53, 3) := by decide +kernel
theorem dX12_init_113 : decode cX12_init 113 = .ok (.aload_n 0, 1) := by decide +kernel
theorem dX12_init_114 : decode cX12_init 114 = .ok (.bipush 8, 2) := by decide +kernel
theorem dX12_init_116 : decode cX12_init 116 = .ok (.newarray .int, 2) := by decide +kernel
theorem dX12_init_118 : decode cX12_init 118 = .ok (.putfield 56, 3) := by decide +kernel
theorem dX12_init_121 : decode cX12_init 121 = .ok (.return_, 1) := by decide +kernel
theorem dX12_within_0 : decode cX12_within 0 = .ok (.iload_n 0, 1) := by decide +kernel
theorem dX12_within_1 : decode cX12_within 1 = .ok (.iload_n 1, 1) := by decide +kernel
theorem dX12_within_2 : decode cX12_within 2 = .ok (.if_icmp .lt 12, 3) := by decide +kernel
theorem dX12_within_5 : decode cX12_within 5 = .ok (.iload_n 0, 1) := by decide +kernel
theorem dX12_within_6 : decode cX12_within 6 = .ok (.iload_n 2, 1) := by decide +kernel
theorem dX12_within_7 : decode cX12_within 7 = .ok (.if_icmp .gt 7, 3) := by decide +kernel
theorem dX12_within_10 : decode cX12_within 10 = .ok (.iconst 1, 1) := by decide +kernel
theorem dX12_within_11 : decode cX12_within 11 = .ok (.goto 4, 3) := by decide +kernel
theorem dX12_within_14 : decode cX12_within 14 = .ok (.iconst 0, 1) := by decide +kernel
theorem dX12_within_15 : decode cX12_within 15 = .ok (.ireturn, 1) := by decide +kernel
theorem dX12_has_0 : decode cX12_has 0 = .ok (.iload_n 0, 1) := by decide +kernel
theorem dX12_has_1 : decode cX12_has 1 = .ok (.iload_n 1, 1) := by decide +kernel
theorem dX12_has_2 : decode cX12_has 2 = .ok (.ishr, 1) := by decide +kernel
theorem dX12_has_3 : decode cX12_has 3 = .ok (.iconst 1, 1) := by decide +kernel
theorem dX12_has_4 : decode cX12_has 4 = .ok (.iand, 1) := by decide +kernel
theorem dX12_has_5 : decode cX12_has 5 = .ok (.iconst 1, 1) := by decide +kernel
theorem dX12_has_6 : decode cX12_has 6 = .ok (.if_icmp .ne 7, 3) := by decide +kernel
theorem dX12_has_9 : decode cX12_has 9 = .ok (.iconst 1, 1) := by decide +kernel
theorem dX12_has_10 : decode cX12_has 10 = .ok (.goto 4, 3) := by decide +kernel
theorem dX12_has_13 : decode cX12_has 13 = .ok (.iconst 0, 1) := by decide +kernel
theorem dX12_has_14 : decode cX12_has 14 = .ok (.ireturn, 1) := by decide +kernel
theorem dX12_letter_0 : decode cX12_letter 0 = .ok (.iload_n 1, 1) := by decide +kernel
theorem dX12_letter_1 : decode cX12_letter 1 = .ok (.bipush 32, 2) := by decide +kernel
theorem dX12_letter_3 : decode cX12_letter 3 = .ok (.bipush 126, 2) := by decide +kernel
theorem dX12_letter_5 : decode cX12_letter 5 = .ok (.invokestatic 59, 3) := by decide +kernel
theorem dX12_letter_8 : decode cX12_letter 8 = .ok (.ifCond .ne 6, 3) := by decide +kernel
theorem dX12_letter_11 : decode cX12_letter 11 = .ok (.bipush (-102), 2) := by decide +kernel
theorem dX12_letter_13 : decode cX12_letter 13 = .ok (.ireturn, 1) := by decide +kernel
theorem dX12_letter_14 : decode cX12_letter 14 = .ok (.aload_n 0, 1) := by decide +kernel
theorem dX12_letter_15 : decode cX12_letter 15 = .ok (.getfield 63, 3) := by decide +kernel
theorem dX12_letter_18 : decode cX12_letter 18 = .ok (.bipush 28, 2) := by decide +kernel
theorem dX12_letter_20 : decode cX12_letter 20 = .ok (.if_icmp .ne 6, 3) := by decide +kernel
theorem dX12_letter_23 : decode cX12_letter 23 = .ok (.bipush (-104), 2) := by decide +kernel
theorem dX12_letter_25 : decode cX12_letter 25 = .ok (.ireturn, 1) := by decide +kernel
theorem dX12_letter_26 : decode cX12_letter 26 = .ok (.aload_n 0, 1) := by decide +kernel
theorem dX12_letter_27 : decode cX12_letter 27 = .ok (.getfield 34, 3) := by decide +kernel
theorem dX12_letter_30 : decode cX12_letter 30 = .ok (.aload_n 0, 1) := by decide +kernel
theorem dX12_letter_31 : decode cX12_letter 31 = .ok (.getfield 63, 3) := by decide +kernel
theorem dX12_letter_34 : decode cX12_letter 34 = .ok (.iload_n 1, 1) := by decide +kernel
theorem dX12_letter_35 : decode cX12_letter 35 = .ok (.i2b, 1) := by decide +kernel
theorem dX12_letter_36 : decode cX12_letter 36 = .ok (.bastore, 1) := by decide +kernel
theorem dX12_letter_37 : decode cX12_letter 37 = .ok (.aload_n 0, 1) := by decide +kernel
theorem dX12_letter_38 : decode cX12_letter 38 = .ok (.dup, 1) := by decide +kernel
theorem dX12_letter_39 : decode cX12_letter 39 = .ok (.getfield 63, 3) := by decide +kernel
theorem dX12_letter_42 : decode cX12_letter 42 = .ok (.iconst 1, 1) := by decide +kernel
theorem dX12_letter_43 : decode cX12_letter 43 = .ok (.iadd, 1) := by decide +kernel
theorem dX12_letter_44 : decode cX12_letter 44 = .ok (.putfield 63, 3) := by decide +kernel
theorem dX12_letter_47 : decode cX12_letter 47 = .ok (.aload_n 0, 1) := by decide +kernel
theorem dX12_letter_48 : decode cX12_letter 48 = .ok (.getfield 63, 3) := by decide +kernel
theorem dX12_letter_51 : decode cX12_letter 51 = .ok (.ireturn, 1) := by decide +kernel
theorem dX12_blank_0 : decode cX12_blank 0 = .ok (.aload_n 0, 1) := by decide +kernel
theorem dX12_blank_1 : decode cX12_blank 1 = .ok (.getfield 63, 3) := by decide +kernel
theorem dX12_blank_4 : decode cX12_blank 4 = .ok (.istore_n 1, 1) := by decide +kernel
theorem dX12_blank_5 : decode cX12_blank 5 = .ok (.aload_n 0, 1) := by decide +kernel
theorem dX12_blank_6 : decode cX12_blank 6 = .ok (.iconst 0, 1) := by decide +kernel
theorem dX12_blank_7 : decode cX12_blank 7 = .ok (.putfield 63, 3) := by decide +kernel
theorem dX12_blank_10 : decode cX12_blank 10 = .ok (.iload_n 1, 1) := by decide +kernel
theorem dX12_blank_11 : decode cX12_blank 11 = .ok (.ireturn, 1) := by decide +kernel
theorem dX12_kindBy_0 : decode cX12_kindBy 0 = .ok (.iload_n 0, 1) := by decide +kernel
theorem dX12_kindBy_1 : decode cX12_kindBy 1 = .ok (.lookupswitch 61 #[(98, 51), (99, 59), (101, 57), (115, 55), (116, 53)], 51) := by decide +kernel
theorem dX12_kindBy_52 : decode cX12_kindBy 52 = .ok (.iconst 0, 1) := by decide +kernel
theorem dX12_kindBy_53 : decode cX12_kindBy 53 = .ok (.ireturn, 1) := by decide +kernel
theorem dX12_kindBy_54 : decode cX12_kindBy 54 = .ok (.iconst 1, 1) := by decide +kernel
theorem dX12_kindBy_55 : decode cX12_kindBy 55 = .ok (.ireturn, 1) := by decide +kernel
theorem dX12_kindBy_56 : decode cX12_kindBy 56 = .ok (.iconst 2, 1) := by decide +kernel
theorem dX12_kindBy_57 : decode cX12_kindBy 57 = .ok (.ireturn, 1) := by decide +kernel
theorem dX12_kindBy_58 : decode cX12_kindBy 58 = .ok (.iconst 3, 1) := by decide +kernel
theorem dX12_kindBy_59 : decode cX12_kindBy 59 = .ok (.ireturn, 1) := by decide +kernel
theorem dX12_kindBy_60 : decode cX12_kindBy 60 = .ok (.iconst 4, 1) := by decide +kernel
theorem dX12_kindBy_61 : decode cX12_kindBy 61 = .ok (.ireturn, 1) := by decide +kernel
theorem dX12_kindBy_62 : decode cX12_kindBy 62 = .ok (.iconst (-1), 1) := by decide +kernel
theorem dX12_kindBy_63 : decode cX12_kindBy 63 = .ok (.ireturn, 1) := by decide +kernel
theorem dX12_isFigure_0 : decode cX12_isFigure 0 = .ok (.iload_n 1, 1) := by decide +kernel
theorem dX12_isFigure_1 : decode cX12_isFigure 1 = .ok (.aload_n 0, 1) := by decide +kernel
theorem dX12_isFigure_2 : decode cX12_isFigure 2 = .ok (.getfield 63, 3) := by decide +kernel
theorem dX12_isFigure_5 : decode cX12_isFigure 5 = .ok (.if_icmp .ge 25, 3) := by decide +kernel
theorem dX12_isFigure_8 : decode cX12_isFigure 8 = .ok (.aload_n 0, 1) := by decide +kernel
theorem dX12_isFigure_9 : decode cX12_isFigure 9 = .ok (.getfield 34, 3) := by decide +kernel
theorem dX12_isFigure_12 : decode cX12_isFigure 12 = .ok (.iload_n 1, 1) := by decide +kernel
theorem dX12_isFigure_13 : decode cX12_isFigure 13 = .ok (.baload, 1) := by decide +kernel
theorem dX12_isFigure_14 : decode cX12_isFigure 14 = .ok (.bipush 48, 2) := by decide +kernel
theorem dX12_isFigure_16 : decode cX12_isFigure 16 = .ok (.isub, 1) := by decide +kernel
theorem dX12_isFigure_17 : decode cX12_isFigure 17 = .ok (.iload_n 2, 1) := by decide +kernel
theorem dX12_isFigure_18 : decode cX12_isFigure 18 = .ok (.bipush 9, 2) := by decide +kernel
theorem dX12_isFigure_20 : decode cX12_isFigure 20 = .ok (.invokestatic 59, 3) := by decide +kernel
theorem dX12_isFigure_23 : decode cX12_isFigure 23 = .ok (.ifCond .eq 7, 3) := by decide +kernel
theorem dX12_isFigure_26 : decode cX12_isFigure 26 = .ok (.iconst 1, 1) := by decide +kernel
theorem dX12_isFigure_27 : decode cX12_isFigure 27 = .ok (.goto 4, 3) := by decide +kernel
theorem dX12_isFigure_30 : decode cX12_isFigure 30 = .ok (.iconst 0, 1) := by decide +kernel
theorem dX12_isFigure_31 : decode cX12_isFigure 31 = .ok (.ireturn, 1) := by decide +kernel
theorem dX12_readOne_0 : decode cX12_readOne 0 = .ok (.iload_n 1, 1) := by decide +kernel
theorem dX12_readOne_1 : decode cX12_readOne 1 = .ok (.aload_n 0, 1) := by decide +kernel
theorem dX12_readOne_2 : decode cX12_readOne 2 = .ok (.getfield 63, 3) := by decide +kernel
theorem dX12_readOne_5 : decode cX12_readOne 5 = .ok (.if_icmp .eq 16, 3) := by decide +kernel
theorem dX12_readOne_8 : decode cX12_readOne 8 = .ok (.aload_n 0, 1) := by decide +kernel
theorem dX12_readOne_9 : decode cX12_readOne 9 = .ok (.getfield 34, 3) := by decide +kernel
theorem dX12_readOne_12 : decode cX12_readOne 12 = .ok (.iload_n 1, 1) := by decide +kernel
theorem dX12_readOne_13 : decode cX12_readOne 13 = .ok (.baload, 1) := by decide +kernel
theorem dX12_readOne_14 : decode cX12_readOne 14 = .ok (.invokestatic 67, 3) := by decide +kernel
theorem dX12_readOne_17 : decode cX12_readOne 17 = .ok (.iconst (-1), 1) := by decide +kernel
theorem dX12_readOne_18 : decode cX12_readOne 18 = .ok (.if_icmp .ne 5, 3) := by decide +kernel
theorem dX12_readOne_21 : decode cX12_readOne 21 = .ok (.iload_n 1, 1) := by decide +kernel
theorem dX12_readOne_22 : decode cX12_readOne 22 = .ok (.ireturn, 1) := by decide +kernel
theorem dX12_readOne_23 : decode cX12_readOne 23 = .ok (.aload_n 0, 1) := by decide +kernel
theorem dX12_readOne_24 : decode cX12_readOne 24 = .ok (.iload_n 1, 1) := by decide +kernel
theorem dX12_readOne_25 : decode cX12_readOne 25 = .ok (.iconst 1, 1) := by decide +kernel
theorem dX12_readOne_26 : decode cX12_readOne 26 = .ok (.iadd, 1) := by decide +kernel
theorem dX12_readOne_27 : decode cX12_readOne 27 = .ok (.iconst 1, 1) := by decide +kernel
theorem dX12_readOne_28 : decode cX12_readOne 28 = .ok (.invokevirtual 71, 3) := by decide +kernel
theorem dX12_readOne_31 : decode cX12_readOne 31 = .ok (.ifCond .ne 9, 3) := by decide +kernel
theorem dX12_readOne_34 : decode cX12_readOne 34 = .ok (.iload_n 1, 1) := by decide +kernel
theorem dX12_readOne_35 : decode cX12_readOne 35 = .ok (.iconst 1, 1) := by decide +kernel
theorem dX12_readOne_36 : decode cX12_readOne 36 = .ok (.iadd, 1) := by decide +kernel
theorem dX12_readOne_37 : decode cX12_readOne 37 = .ok (.goto 40, 3) := by decide +kernel
theorem dX12_readOne_40 : decode cX12_readOne 40 = .ok (.aload_n 0, 1) := by decide +kernel
theorem dX12_readOne_41 : decode cX12_readOne 41 = .ok (.iload_n 1, 1) := by decide +kernel
theorem dX12_readOne_42 : decode cX12_readOne 42 = .ok (.iconst 2, 1) := by decide +kernel
theorem dX12_readOne_43 : decode cX12_readOne 43 = .ok (.iadd, 1) := by decide +kernel
theorem dX12_readOne_44 : decode cX12_readOne 44 = .ok (.iconst 0, 1) := by decide +kernel
theorem dX12_readOne_45 : decode cX12_readOne 45 = .ok (.invokevirtual 71, 3) := by decide +kernel
theorem dX12_readOne_48 : decode cX12_readOne 48 = .ok (.ifCond .ne 9, 3) := by decide +kernel
theorem dX12_readOne_51 : decode cX12_readOne 51 = .ok (.iload_n 1, 1) := by decide +kernel
theorem dX12_readOne_52 : decode cX12_readOne 52 = .ok (.iconst 2, 1) := by decide +kernel
theorem dX12_readOne_53 : decode cX12_readOne 53 = .ok (.iadd, 1) := by decide +kernel
theorem dX12_readOne_54 : decode cX12_readOne 54 = .ok (.goto 23, 3) := by decide +kernel
theorem dX12_readOne_57 : decode cX12_readOne 57 = .ok (.aload_n 0, 1) := by decide +kernel
theorem dX12_readOne_58 : decode cX12_readOne 58 = .ok (.iload_n 1, 1) := by decide +kernel
theorem dX12_readOne_59 : decode cX12_readOne 59 = .ok (.iconst 3, 1) := by decide +kernel
theorem dX12_readOne_60 : decode cX12_readOne 60 = .ok (.iadd, 1) := by decide +kernel
theorem dX12_readOne_61 : decode cX12_readOne 61 = .ok (.iconst 0, 1) := by decide +kernel
theorem dX12_readOne_62 : decode cX12_readOne 62 = .ok (.invokevirtual 71, 3) := by decide +kernel
theorem dX12_readOne_65 : decode cX12_readOne 65 = .ok (.ifCond .ne 9, 3) := by decide +kernel
theorem dX12_readOne_68 : decode cX12_readOne 68 = .ok (.iload_n 1, 1) := by decide +kernel
theorem dX12_readOne_69 : decode cX12_readOne 69 = .ok (.iconst 3, 1) := by decide +kernel
theorem dX12_readOne_70 : decode cX12_readOne 70 = .ok (.iadd, 1) := by decide +kernel
theorem dX12_readOne_71 : decode cX12_readOne 71 = .ok (.goto 6, 3) := by decide +kernel
theorem dX12_readOne_74 : decode cX12_readOne 74 = .ok (.iload_n 1, 1) := by decide +kernel
theorem dX12_readOne_75 : decode cX12_readOne 75 = .ok (.iconst 4, 1) := by decide +kernel
theorem dX12_readOne_76 : decode cX12_readOne 76 = .ok (.iadd, 1) := by decide +kernel
theorem dX12_readOne_77 : decode cX12_readOne 77 = .ok (.ireturn, 1) := by decide +kernel
theorem dX12_read_0 : decode cX12_read 0 = .ok (.aload_n 0, 1) := by decide +kernel
theorem dX12_read_1 : decode cX12_read 1 = .ok (.iconst 0, 1) := by decide +kernel
theorem dX12_read_2 : decode cX12_read 2 = .ok (.putfield 75, 3) := by decide +kernel
theorem dX12_read_5 : decode cX12_read 5 = .ok (.aload_n 0, 1) := by decide +kernel
theorem dX12_read_6 : decode cX12_read 6 = .ok (.iconst 0, 1) := by decide +kernel
theorem dX12_read_7 : decode cX12_read 7 = .ok (.putfield 79, 3) := by decide +kernel
theorem dX12_read_10 : decode cX12_read 10 = .ok (.iconst 0, 1) := by decide +kernel
theorem dX12_read_11 : decode cX12_read 11 = .ok (.istore_n 1, 1) := by decide +kernel
theorem dX12_read_12 : decode cX12_read 12 = .ok (.aload_n 0, 1) := by decide +kernel
theorem dX12_read_13 : decode cX12_read 13 = .ok (.getfield 79, 3) := by decide +kernel
theorem dX12_read_16 : decode cX12_read 16 = .ok (.iconst 5, 1) := by decide +kernel
theorem dX12_read_17 : decode cX12_read 17 = .ok (.if_icmp .ge 153, 3) := by decide +kernel
theorem dX12_read_20 : decode cX12_read 20 = .ok (.aload_n 0, 1) := by decide +kernel
theorem dX12_read_21 : decode cX12_read 21 = .ok (.iload_n 1, 1) := by decide +kernel
theorem dX12_read_22 : decode cX12_read 22 = .ok (.invokevirtual 82, 3) := by decide +kernel
theorem dX12_read_25 : decode cX12_read 25 = .ok (.istore_n 2, 1) := by decide +kernel
theorem dX12_read_26 : decode cX12_read 26 = .ok (.iload_n 2, 1) := by decide +kernel
theorem dX12_read_27 : decode cX12_read 27 = .ok (.iload_n 1, 1) := by decide +kernel
theorem dX12_read_28 : decode cX12_read 28 = .ok (.iconst 4, 1) := by decide +kernel
theorem dX12_read_29 : decode cX12_read 29 = .ok (.iadd, 1) := by decide +kernel
theorem dX12_read_30 : decode cX12_read 30 = .ok (.if_icmp .eq 5, 3) := by decide +kernel
theorem dX12_read_33 : decode cX12_read 33 = .ok (.iload_n 2, 1) := by decide +kernel
theorem dX12_read_34 : decode cX12_read 34 = .ok (.ireturn, 1) := by decide +kernel
theorem dX12_read_35 : decode cX12_read 35 = .ok (.aload_n 0, 1) := by decide +kernel
theorem dX12_read_36 : decode cX12_read 36 = .ok (.dup, 1) := by decide +kernel
theorem dX12_read_37 : decode cX12_read 37 = .ok (.getfield 79, 3) := by decide +kernel
theorem dX12_read_40 : decode cX12_read 40 = .ok (.iconst 1, 1) := by decide +kernel
theorem dX12_read_41 : decode cX12_read 41 = .ok (.iadd, 1) := by decide +kernel
theorem dX12_read_42 : decode cX12_read 42 = .ok (.putfield 79, 3) := by decide +kernel
theorem dX12_read_45 : decode cX12_read 45 = .ok (.iload_n 2, 1) := by decide +kernel
theorem dX12_read_46 : decode cX12_read 46 = .ok (.istore_n 1, 1) := by decide +kernel
theorem dX12_read_47 : decode cX12_read 47 = .ok (.iload_n 1, 1) := by decide +kernel
theorem dX12_read_48 : decode cX12_read 48 = .ok (.aload_n 0, 1) := by decide +kernel
theorem dX12_read_49 : decode cX12_read 49 = .ok (.getfield 63, 3) := by decide +kernel
theorem dX12_read_52 : decode cX12_read 52 = .ok (.if_icmp .ge 26, 3) := by decide +kernel
theorem dX12_read_55 : decode cX12_read 55 = .ok (.aload_n 0, 1) := by decide +kernel
theorem dX12_read_56 : decode cX12_read 56 = .ok (.getfield 34, 3) := by decide +kernel
theorem dX12_read_59 : decode cX12_read 59 = .ok (.iload_n 1, 1) := by decide +kernel
theorem dX12_read_60 : decode cX12_read 60 = .ok (.baload, 1) := by decide +kernel
theorem dX12_read_61 : decode cX12_read 61 = .ok (.bipush 59, 2) := by decide +kernel
theorem dX12_read_63 : decode cX12_read 63 = .ok (.if_icmp .ne 15, 3) := by decide +kernel
theorem dX12_read_66 : decode cX12_read 66 = .ok (.aload_n 0, 1) := by decide +kernel
