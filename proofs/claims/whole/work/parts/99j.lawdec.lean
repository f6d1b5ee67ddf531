/-! The law's instructions, decoded. -/
theorem ld_0 : lawC 5 192 13 17 = true := by decide +kernel
theorem ld_1 : lawC 1 255 18 22 = true := by decide +kernel
theorem ld_2 : lawC 0 278 23 27 = true := by decide +kernel
theorem ld_3 : lawC 1 291 28 31 = true := by decide +kernel
theorem ld_4 : lawC 3 314 32 36 = true := by decide +kernel
theorem ld_5 : lawC 1 357 37 40 = true := by decide +kernel
theorem ld_6 : lawC 1 380 41 44 = true := by decide +kernel
theorem ld_7 : lawC 1 403 45 48 = true := by decide +kernel
theorem ld_8 : lawC 1 426 49 52 = true := by decide +kernel
theorem ld_9 : lawC 1 449 53 56 = true := by decide +kernel
theorem ld_10 : lawC 3 472 57 60 = true := by decide +kernel
theorem ld_11 : lawC 0 515 61 64 = true := by decide +kernel
theorem ld_12 : lawC 0 528 65 68 = true := by decide +kernel
theorem ld_13 : lawC 0 541 69 72 = true := by decide +kernel
theorem ld_14 : lawC 1 554 73 76 = true := by decide +kernel
theorem ld_15 : lawC 1 577 77 80 = true := by decide +kernel
theorem ld_16 : lawC 1 600 81 84 = true := by decide +kernel
theorem ld_17 : lawC 1 623 85 88 = true := by decide +kernel
theorem ld_18 : lawC 2 646 89 93 = true := by decide +kernel
theorem ld_19 : lawC 1 679 94 97 = true := by decide +kernel
theorem ld_20 : lawC 2 702 98 101 = true := by decide +kernel
theorem ld_21 : lawC 1 735 102 105 = true := by decide +kernel
theorem ld_22 : lawC 1 758 106 109 = true := by decide +kernel
theorem ld_23 : lawC 1 781 110 113 = true := by decide +kernel
theorem ld_24 : lawC 2 804 114 117 = true := by decide +kernel
theorem ld_25 : lawC 1 837 118 121 = true := by decide +kernel
theorem ld_26 : lawC 3 860 122 125 = true := by decide +kernel
theorem ld_27 : lawC 3 903 126 129 = true := by decide +kernel
theorem ld_28 : lawC 3 946 130 133 = true := by decide +kernel
theorem ld_29 : lawC 2 989 134 137 = true := by decide +kernel
theorem ld_30 : lawC 1 1022 138 141 = true := by decide +kernel
theorem ld_31 : lawC 1 1045 142 145 = true := by decide +kernel
theorem ld_32 : lawC 1 1068 146 149 = true := by decide +kernel
theorem ld_33 : lawC 3 1091 150 153 = true := by decide +kernel
theorem ld_34 : lawC 1 1134 154 157 = true := by decide +kernel
theorem ld_35 : lawC 1 1157 158 161 = true := by decide +kernel
theorem dl_0 : decode code 0 = .ok (.new 7, 3) := by decide +kernel
theorem dl_3 : decode code 3 = .ok (.dup, 1) := by decide +kernel
theorem dl_4 : decode code 4 = .ok (.invokespecial 9, 3) := by decide +kernel
theorem dl_7 : decode code 7 = .ok (.astore_n 1, 1) := by decide +kernel
theorem dl_8 : decode code 8 = .ok (.new 10, 3) := by decide +kernel
theorem dl_11 : decode code 11 = .ok (.dup, 1) := by decide +kernel
theorem dl_12 : decode code 12 = .ok (.invokespecial 12, 3) := by decide +kernel
theorem dl_15 : decode code 15 = .ok (.astore_n 2, 1) := by decide +kernel
theorem dl_16 : decode code 16 = .ok (.iconst 0, 1) := by decide +kernel
theorem dl_17 : decode code 17 = .ok (.istore_n 3, 1) := by decide +kernel
theorem dl_18 : decode code 18 = .ok (.iload_n 3, 1) := by decide +kernel
theorem dl_19 : decode code 19 = .ok (.aload_n 0, 1) := by decide +kernel
theorem dl_20 : decode code 20 = .ok (.arraylength, 1) := by decide +kernel
theorem dl_21 : decode code 21 = .ok (.bipush 6, 2) := by decide +kernel
theorem dl_23 : decode code 23 = .ok (.isub, 1) := by decide +kernel
theorem dl_24 : decode code 24 = .ok (.if_icmp .gt 1162, 3) := by decide +kernel
theorem dl_27 : decode code 27 = .ok (.aload_n 0, 1) := by decide +kernel
theorem dl_28 : decode code 28 = .ok (.iload_n 3, 1) := by decide +kernel
theorem dl_29 : decode code 29 = .ok (.iaload, 1) := by decide +kernel
theorem dl_30 : decode code 30 = .ok (.bipush 63, 2) := by decide +kernel
theorem dl_32 : decode code 32 = .ok (.iand, 1) := by decide +kernel
theorem dl_33 : decode code 33 = .ok (.tableswitch 1147 0 35 #[159, 222, 245, 258, 281, 324, 347, 370, 393, 416, 439, 482, 495, 508, 521, 544, 567, 590, 613, 646, 669, 702, 725, 748, 771, 804, 827, 870, 913, 956, 989, 1012, 1035, 1058, 1101, 1124], 159) := by decide +kernel
theorem dl_1180 : decode code 1180 = .ok (.iinc 3 6, 3) := by decide +kernel
theorem dl_1183 : decode code 1183 = .ok (.goto (-1165), 3) := by decide +kernel
theorem dl_1186 : decode code 1186 = .ok (.iconst 1, 1) := by decide +kernel
theorem dl_1187 : decode code 1187 = .ok (.ireturn, 1) := by decide +kernel
