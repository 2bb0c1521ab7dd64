abbrev cX5_back : ByteArray := prog_7_method_84_code
abbrev mX5_back : MethodName := { cls := "KinInTheHeapModel", name := "back", desc := "()I" }
theorem mwX5_back : MWV mX5_back (.code mX5_back cX5_back 2 (some .int)) "KinInTheHeapModel" 0 := ⟨w1424, w1422, w1423, w103, w103, by decide +kernel⟩
theorem dX5_back_0 : decode cX5_back 0 = .ok (.aload_n 0, 1) := by decide +kernel
theorem dX5_back_1 : decode cX5_back 1 = .ok (.getfield 53, 3) := by decide +kernel
theorem dX5_back_4 : decode cX5_back 4 = .ok (.iconst (-1), 1) := by decide +kernel
theorem dX5_back_5 : decode cX5_back 5 = .ok (.if_icmp .ne 6, 3) := by decide +kernel
theorem dX5_back_8 : decode cX5_back 8 = .ok (.bipush (-3), 2) := by decide +kernel
theorem dX5_back_10 : decode cX5_back 10 = .ok (.ireturn, 1) := by decide +kernel
theorem dX5_back_11 : decode cX5_back 11 = .ok (.iconst 0, 1) := by decide +kernel
theorem dX5_back_12 : decode cX5_back 12 = .ok (.istore_n 1, 1) := by decide +kernel
theorem dX5_back_13 : decode cX5_back 13 = .ok (.iload_n 1, 1) := by decide +kernel
theorem dX5_back_14 : decode cX5_back 14 = .ok (.bipush 36, 2) := by decide +kernel
theorem dX5_back_16 : decode cX5_back 16 = .ok (.if_icmp .ge 21, 3) := by decide +kernel
theorem dX5_back_19 : decode cX5_back 19 = .ok (.aload_n 0, 1) := by decide +kernel
theorem dX5_back_20 : decode cX5_back 20 = .ok (.getfield 26, 3) := by decide +kernel
theorem dX5_back_23 : decode cX5_back 23 = .ok (.iload_n 1, 1) := by decide +kernel
theorem dX5_back_24 : decode cX5_back 24 = .ok (.aload_n 0, 1) := by decide +kernel
theorem dX5_back_25 : decode cX5_back 25 = .ok (.getfield 44, 3) := by decide +kernel
theorem dX5_back_28 : decode cX5_back 28 = .ok (.iload_n 1, 1) := by decide +kernel
theorem dX5_back_29 : decode cX5_back 29 = .ok (.iaload, 1) := by decide +kernel
theorem dX5_back_30 : decode cX5_back 30 = .ok (.iastore, 1) := by decide +kernel
theorem dX5_back_31 : decode cX5_back 31 = .ok (.iinc 1 1, 3) := by decide +kernel
theorem dX5_back_34 : decode cX5_back 34 = .ok (.goto (-21), 3) := by decide +kernel
theorem dX5_back_37 : decode cX5_back 37 = .ok (.iconst 0, 1) := by decide +kernel
theorem dX5_back_38 : decode cX5_back 38 = .ok (.istore_n 1, 1) := by decide +kernel
theorem dX5_back_39 : decode cX5_back 39 = .ok (.iload_n 1, 1) := by decide +kernel
theorem dX5_back_40 : decode cX5_back 40 = .ok (.bipush 8, 2) := by decide +kernel
theorem dX5_back_42 : decode cX5_back 42 = .ok (.if_icmp .ge 33, 3) := by decide +kernel
theorem dX5_back_45 : decode cX5_back 45 = .ok (.aload_n 0, 1) := by decide +kernel
theorem dX5_back_46 : decode cX5_back 46 = .ok (.getfield 32, 3) := by decide +kernel
theorem dX5_back_49 : decode cX5_back 49 = .ok (.iload_n 1, 1) := by decide +kernel
theorem dX5_back_50 : decode cX5_back 50 = .ok (.aload_n 0, 1) := by decide +kernel
theorem dX5_back_51 : decode cX5_back 51 = .ok (.getfield 47, 3) := by decide +kernel
theorem dX5_back_54 : decode cX5_back 54 = .ok (.iload_n 1, 1) := by decide +kernel
theorem dX5_back_55 : decode cX5_back 55 = .ok (.iaload, 1) := by decide +kernel
theorem dX5_back_56 : decode cX5_back 56 = .ok (.iastore, 1) := by decide +kernel
theorem dX5_back_57 : decode cX5_back 57 = .ok (.aload_n 0, 1) := by decide +kernel
theorem dX5_back_58 : decode cX5_back 58 = .ok (.getfield 35, 3) := by decide +kernel
theorem dX5_back_61 : decode cX5_back 61 = .ok (.iload_n 1, 1) := by decide +kernel
theorem dX5_back_62 : decode cX5_back 62 = .ok (.aload_n 0, 1) := by decide +kernel
theorem dX5_back_63 : decode cX5_back 63 = .ok (.getfield 50, 3) := by decide +kernel
theorem dX5_back_66 : decode cX5_back 66 = .ok (.iload_n 1, 1) := by decide +kernel
theorem dX5_back_67 : decode cX5_back 67 = .ok (.iaload, 1) := by decide +kernel
theorem dX5_back_68 : decode cX5_back 68 = .ok (.iastore, 1) := by decide +kernel
theorem dX5_back_69 : decode cX5_back 69 = .ok (.iinc 1 1, 3) := by decide +kernel
theorem dX5_back_72 : decode cX5_back 72 = .ok (.goto (-33), 3) := by decide +kernel
theorem dX5_back_75 : decode cX5_back 75 = .ok (.aload_n 0, 1) := by decide +kernel
theorem dX5_back_76 : decode cX5_back 76 = .ok (.aload_n 0, 1) := by decide +kernel
theorem dX5_back_77 : decode cX5_back 77 = .ok (.getfield 53, 3) := by decide +kernel
theorem dX5_back_80 : decode cX5_back 80 = .ok (.putfield 76, 3) := by decide +kernel
theorem dX5_back_83 : decode cX5_back 83 = .ok (.aload_n 0, 1) := by decide +kernel
theorem dX5_back_84 : decode cX5_back 84 = .ok (.aload_n 0, 1) := by decide +kernel
theorem dX5_back_85 : decode cX5_back 85 = .ok (.getfield 374, 3) := by decide +kernel
theorem dX5_back_88 : decode cX5_back 88 = .ok (.putfield 112, 3) := by decide +kernel
theorem dX5_back_91 : decode cX5_back 91 = .ok (.aload_n 0, 1) := by decide +kernel
theorem dX5_back_92 : decode cX5_back 92 = .ok (.aload_n 0, 1) := by decide +kernel
theorem dX5_back_93 : decode cX5_back 93 = .ok (.getfield 377, 3) := by decide +kernel
theorem dX5_back_96 : decode cX5_back 96 = .ok (.putfield 23, 3) := by decide +kernel
theorem dX5_back_99 : decode cX5_back 99 = .ok (.aload_n 0, 1) := by decide +kernel
theorem dX5_back_100 : decode cX5_back 100 = .ok (.aload_n 0, 1) := by decide +kernel
theorem dX5_back_101 : decode cX5_back 101 = .ok (.getfield 380, 3) := by decide +kernel
theorem dX5_back_104 : decode cX5_back 104 = .ok (.putfield 115, 3) := by decide +kernel
theorem dX5_back_107 : decode cX5_back 107 = .ok (.aload_n 0, 1) := by decide +kernel
theorem dX5_back_108 : decode cX5_back 108 = .ok (.getfield 76, 3) := by decide +kernel
theorem dX5_back_111 : decode cX5_back 111 = .ok (.ireturn, 1) := by decide +kernel
abbrev cX5_count : ByteArray := prog_7_method_85_code
abbrev mX5_count : MethodName := { cls := "KinInTheHeapModel", name := "count", desc := "(I)I" }
theorem mwX5_count : MWV mX5_count (.code mX5_count cX5_count 4 (some .int)) "KinInTheHeapModel" 1 := ⟨w1428, w1426, w1427, w103, w103, by decide +kernel⟩
theorem dX5_count_0 : decode cX5_count 0 = .ok (.iload_n 1, 1) := by decide +kernel
theorem dX5_count_1 : decode cX5_count 1 = .ok (.i2l, 1) := by decide +kernel
theorem dX5_count_2 : decode cX5_count 2 = .ok (.lconst 0, 1) := by decide +kernel
theorem dX5_count_3 : decode cX5_count 3 = .ok (.ldc2_w 118, 3) := by decide +kernel
theorem dX5_count_6 : decode cX5_count 6 = .ok (.invokestatic 79, 3) := by decide +kernel
theorem dX5_count_9 : decode cX5_count 9 = .ok (.ifCond .ne 6, 3) := by decide +kernel
theorem dX5_count_12 : decode cX5_count 12 = .ok (.bipush (-2), 2) := by decide +kernel
theorem dX5_count_14 : decode cX5_count 14 = .ok (.ireturn, 1) := by decide +kernel
theorem dX5_count_15 : decode cX5_count 15 = .ok (.iconst 0, 1) := by decide +kernel
theorem dX5_count_16 : decode cX5_count 16 = .ok (.istore_n 2, 1) := by decide +kernel
theorem dX5_count_17 : decode cX5_count 17 = .ok (.iconst 0, 1) := by decide +kernel
theorem dX5_count_18 : decode cX5_count 18 = .ok (.istore_n 3, 1) := by decide +kernel
theorem dX5_count_19 : decode cX5_count 19 = .ok (.iload_n 3, 1) := by decide +kernel
theorem dX5_count_20 : decode cX5_count 20 = .ok (.bipush 36, 2) := by decide +kernel
theorem dX5_count_22 : decode cX5_count 22 = .ok (.if_icmp .ge 18, 3) := by decide +kernel
theorem dX5_count_25 : decode cX5_count 25 = .ok (.iload_n 2, 1) := by decide +kernel
theorem dX5_count_26 : decode cX5_count 26 = .ok (.aload_n 0, 1) := by decide +kernel
theorem dX5_count_27 : decode cX5_count 27 = .ok (.getfield 26, 3) := by decide +kernel
theorem dX5_count_30 : decode cX5_count 30 = .ok (.iload_n 3, 1) := by decide +kernel
theorem dX5_count_31 : decode cX5_count 31 = .ok (.iaload, 1) := by decide +kernel
theorem dX5_count_32 : decode cX5_count 32 = .ok (.iadd, 1) := by decide +kernel
theorem dX5_count_33 : decode cX5_count 33 = .ok (.istore_n 2, 1) := by decide +kernel
theorem dX5_count_34 : decode cX5_count 34 = .ok (.iinc 3 1, 3) := by decide +kernel
theorem dX5_count_37 : decode cX5_count 37 = .ok (.goto (-18), 3) := by decide +kernel
theorem dX5_count_40 : decode cX5_count 40 = .ok (.iload_n 1, 1) := by decide +kernel
theorem dX5_count_41 : decode cX5_count 41 = .ok (.ifCond .ne 10, 3) := by decide +kernel
theorem dX5_count_44 : decode cX5_count 44 = .ok (.aload_n 0, 1) := by decide +kernel
theorem dX5_count_45 : decode cX5_count 45 = .ok (.getfield 76, 3) := by decide +kernel
theorem dX5_count_48 : decode cX5_count 48 = .ok (.goto 52, 3) := by decide +kernel
theorem dX5_count_51 : decode cX5_count 51 = .ok (.iload_n 1, 1) := by decide +kernel
theorem dX5_count_52 : decode cX5_count 52 = .ok (.iconst 1, 1) := by decide +kernel
theorem dX5_count_53 : decode cX5_count 53 = .ok (.if_icmp .ne 7, 3) := by decide +kernel
theorem dX5_count_56 : decode cX5_count 56 = .ok (.iload_n 2, 1) := by decide +kernel
theorem dX5_count_57 : decode cX5_count 57 = .ok (.goto 43, 3) := by decide +kernel
theorem dX5_count_60 : decode cX5_count 60 = .ok (.iload_n 1, 1) := by decide +kernel
theorem dX5_count_61 : decode cX5_count 61 = .ok (.iconst 2, 1) := by decide +kernel
theorem dX5_count_62 : decode cX5_count 62 = .ok (.if_icmp .ne 10, 3) := by decide +kernel
theorem dX5_count_65 : decode cX5_count 65 = .ok (.aload_n 0, 1) := by decide +kernel
theorem dX5_count_66 : decode cX5_count 66 = .ok (.getfield 112, 3) := by decide +kernel
theorem dX5_count_69 : decode cX5_count 69 = .ok (.goto 31, 3) := by decide +kernel
theorem dX5_count_72 : decode cX5_count 72 = .ok (.iload_n 1, 1) := by decide +kernel
theorem dX5_count_73 : decode cX5_count 73 = .ok (.iconst 3, 1) := by decide +kernel
theorem dX5_count_74 : decode cX5_count 74 = .ok (.if_icmp .ne 10, 3) := by decide +kernel
theorem dX5_count_77 : decode cX5_count 77 = .ok (.aload_n 0, 1) := by decide +kernel
theorem dX5_count_78 : decode cX5_count 78 = .ok (.getfield 73, 3) := by decide +kernel
theorem dX5_count_81 : decode cX5_count 81 = .ok (.goto 19, 3) := by decide +kernel
theorem dX5_count_84 : decode cX5_count 84 = .ok (.iload_n 1, 1) := by decide +kernel
theorem dX5_count_85 : decode cX5_count 85 = .ok (.iconst 4, 1) := by decide +kernel
theorem dX5_count_86 : decode cX5_count 86 = .ok (.if_icmp .ne 10, 3) := by decide +kernel
theorem dX5_count_89 : decode cX5_count 89 = .ok (.aload_n 0, 1) := by decide +kernel
theorem dX5_count_90 : decode cX5_count 90 = .ok (.getfield 138, 3) := by decide +kernel
theorem dX5_count_93 : decode cX5_count 93 = .ok (.goto 7, 3) := by decide +kernel
theorem dX5_count_96 : decode cX5_count 96 = .ok (.aload_n 0, 1) := by decide +kernel
theorem dX5_count_97 : decode cX5_count 97 = .ok (.getfield 115, 3) := by decide +kernel
theorem dX5_count_100 : decode cX5_count 100 = .ok (.ireturn, 1) := by decide +kernel
abbrev cX5_isSheet : ByteArray := prog_7_method_86_code
abbrev mX5_isSheet : MethodName := { cls := "KinInTheHeapModel", name := "isSheet", desc := "(I)Z" }
theorem mwX5_isSheet : MWS mX5_isSheet (.code mX5_isSheet cX5_isSheet 1 (some .boolean)) 1 := ⟨w1273, w1272, w103, by decide +kernel⟩
theorem dX5_isSheet_0 : decode cX5_isSheet 0 = .ok (.iload_n 0, 1) := by decide +kernel
theorem dX5_isSheet_1 : decode cX5_isSheet 1 = .ok (.i2l, 1) := by decide +kernel
theorem dX5_isSheet_2 : decode cX5_isSheet 2 = .ok (.lconst 0, 1) := by decide +kernel
theorem dX5_isSheet_3 : decode cX5_isSheet 3 = .ok (.ldc2_w 297, 3) := by decide +kernel
theorem dX5_isSheet_6 : decode cX5_isSheet 6 = .ok (.invokestatic 79, 3) := by decide +kernel
theorem dX5_isSheet_9 : decode cX5_isSheet 9 = .ok (.ireturn, 1) := by decide +kernel
abbrev cX5_sheet : ByteArray := prog_7_method_87_code
abbrev mX5_sheet : MethodName := { cls := "KinInTheHeapModel", name := "sheet", desc := "(III)I" }
theorem mwX5_sheet : MWV mX5_sheet (.code mX5_sheet cX5_sheet 5 (some .int)) "KinInTheHeapModel" 3 := ⟨w1400, w1398, w1399, w103, w103, by decide +kernel⟩
theorem dX5_sheet_0 : decode cX5_sheet 0 = .ok (.iload_n 1, 1) := by decide +kernel
theorem dX5_sheet_1 : decode cX5_sheet 1 = .ok (.invokestatic 294, 3) := by decide +kernel
theorem dX5_sheet_4 : decode cX5_sheet 4 = .ok (.ifCond .eq 27, 3) := by decide +kernel
theorem dX5_sheet_7 : decode cX5_sheet 7 = .ok (.iload_n 2, 1) := by decide +kernel
theorem dX5_sheet_8 : decode cX5_sheet 8 = .ok (.i2l, 1) := by decide +kernel
theorem dX5_sheet_9 : decode cX5_sheet 9 = .ok (.ldc2_w 98, 3) := by decide +kernel
theorem dX5_sheet_12 : decode cX5_sheet 12 = .ok (.ldc2_w 383, 3) := by decide +kernel
theorem dX5_sheet_15 : decode cX5_sheet 15 = .ok (.invokestatic 79, 3) := by decide +kernel
theorem dX5_sheet_18 : decode cX5_sheet 18 = .ok (.ifCond .eq 13, 3) := by decide +kernel
theorem dX5_sheet_21 : decode cX5_sheet 21 = .ok (.iload_n 2, 1) := by decide +kernel
theorem dX5_sheet_22 : decode cX5_sheet 22 = .ok (.ifCond .lt 12, 3) := by decide +kernel
theorem dX5_sheet_25 : decode cX5_sheet 25 = .ok (.iload_n 3, 1) := by decide +kernel
theorem dX5_sheet_26 : decode cX5_sheet 26 = .ok (.bipush 40, 2) := by decide +kernel
theorem dX5_sheet_28 : decode cX5_sheet 28 = .ok (.if_icmp .le 6, 3) := by decide +kernel
theorem dX5_sheet_31 : decode cX5_sheet 31 = .ok (.bipush (-2), 2) := by decide +kernel
theorem dX5_sheet_33 : decode cX5_sheet 33 = .ok (.ireturn, 1) := by decide +kernel
theorem dX5_sheet_34 : decode cX5_sheet 34 = .ok (.iload_n 2, 1) := by decide +kernel
theorem dX5_sheet_35 : decode cX5_sheet 35 = .ok (.ifCond .lt 10, 3) := by decide +kernel
theorem dX5_sheet_38 : decode cX5_sheet 38 = .ok (.iload_n 3, 1) := by decide +kernel
theorem dX5_sheet_39 : decode cX5_sheet 39 = .ok (.ifCond .ge 6, 3) := by decide +kernel
theorem dX5_sheet_42 : decode cX5_sheet 42 = .ok (.bipush (-14), 2) := by decide +kernel
theorem dX5_sheet_44 : decode cX5_sheet 44 = .ok (.ireturn, 1) := by decide +kernel
theorem dX5_sheet_45 : decode cX5_sheet 45 = .ok (.aload_n 0, 1) := by decide +kernel
theorem dX5_sheet_46 : decode cX5_sheet 46 = .ok (.getfield 56, 3) := by decide +kernel
theorem dX5_sheet_49 : decode cX5_sheet 49 = .ok (.iload_n 1, 1) := by decide +kernel
theorem dX5_sheet_50 : decode cX5_sheet 50 = .ok (.iload_n 2, 1) := by decide +kernel
theorem dX5_sheet_51 : decode cX5_sheet 51 = .ok (.ifCond .lt 7, 3) := by decide +kernel
theorem dX5_sheet_54 : decode cX5_sheet 54 = .ok (.iconst 1, 1) := by decide +kernel
theorem dX5_sheet_55 : decode cX5_sheet 55 = .ok (.goto 4, 3) := by decide +kernel
theorem dX5_sheet_58 : decode cX5_sheet 58 = .ok (.iconst 0, 1) := by decide +kernel
theorem dX5_sheet_59 : decode cX5_sheet 59 = .ok (.bastore, 1) := by decide +kernel
theorem dX5_sheet_60 : decode cX5_sheet 60 = .ok (.aload_n 0, 1) := by decide +kernel
theorem dX5_sheet_61 : decode cX5_sheet 61 = .ok (.getfield 60, 3) := by decide +kernel
theorem dX5_sheet_64 : decode cX5_sheet 64 = .ok (.iload_n 1, 1) := by decide +kernel
theorem dX5_sheet_65 : decode cX5_sheet 65 = .ok (.iload_n 2, 1) := by decide +kernel
theorem dX5_sheet_66 : decode cX5_sheet 66 = .ok (.iastore, 1) := by decide +kernel
theorem dX5_sheet_67 : decode cX5_sheet 67 = .ok (.aload_n 0, 1) := by decide +kernel
theorem dX5_sheet_68 : decode cX5_sheet 68 = .ok (.getfield 63, 3) := by decide +kernel
theorem dX5_sheet_71 : decode cX5_sheet 71 = .ok (.iload_n 1, 1) := by decide +kernel
theorem dX5_sheet_72 : decode cX5_sheet 72 = .ok (.iload_n 3, 1) := by decide +kernel
theorem dX5_sheet_73 : decode cX5_sheet 73 = .ok (.iastore, 1) := by decide +kernel
theorem dX5_sheet_74 : decode cX5_sheet 74 = .ok (.iconst 0, 1) := by decide +kernel
theorem dX5_sheet_75 : decode cX5_sheet 75 = .ok (.istore 4, 2) := by decide +kernel
theorem dX5_sheet_77 : decode cX5_sheet 77 = .ok (.iload 4, 2) := by decide +kernel
theorem dX5_sheet_79 : decode cX5_sheet 79 = .ok (.iload_n 3, 1) := by decide +kernel
theorem dX5_sheet_80 : decode cX5_sheet 80 = .ok (.if_icmp .ge 26, 3) := by decide +kernel
theorem dX5_sheet_83 : decode cX5_sheet 83 = .ok (.iload_n 2, 1) := by decide +kernel
theorem dX5_sheet_84 : decode cX5_sheet 84 = .ok (.ifCond .lt 22, 3) := by decide +kernel
theorem dX5_sheet_87 : decode cX5_sheet 87 = .ok (.aload_n 0, 1) := by decide +kernel
theorem dX5_sheet_88 : decode cX5_sheet 88 = .ok (.getfield 66, 3) := by decide +kernel
theorem dX5_sheet_91 : decode cX5_sheet 91 = .ok (.bipush 40, 2) := by decide +kernel
theorem dX5_sheet_93 : decode cX5_sheet 93 = .ok (.iload_n 1, 1) := by decide +kernel
theorem dX5_sheet_94 : decode cX5_sheet 94 = .ok (.imul, 1) := by decide +kernel
theorem dX5_sheet_95 : decode cX5_sheet 95 = .ok (.iload 4, 2) := by decide +kernel
theorem dX5_sheet_97 : decode cX5_sheet 97 = .ok (.iadd, 1) := by decide +kernel
theorem dX5_sheet_98 : decode cX5_sheet 98 = .ok (.iconst 0, 1) := by decide +kernel
theorem dX5_sheet_99 : decode cX5_sheet 99 = .ok (.iastore, 1) := by decide +kernel
theorem dX5_sheet_100 : decode cX5_sheet 100 = .ok (.iinc 4 1, 3) := by decide +kernel
theorem dX5_sheet_103 : decode cX5_sheet 103 = .ok (.goto (-26), 3) := by decide +kernel
theorem dX5_sheet_106 : decode cX5_sheet 106 = .ok (.iconst 1, 1) := by decide +kernel
theorem dX5_sheet_107 : decode cX5_sheet 107 = .ok (.ireturn, 1) := by decide +kernel
abbrev cX5_cell : ByteArray := prog_7_method_88_code
abbrev mX5_cell : MethodName := { cls := "KinInTheHeapModel", name := "cell", desc := "(III)I" }
theorem mwX5_cell : MWV mX5_cell (.code mX5_cell cX5_cell 4 (some .int)) "KinInTheHeapModel" 3 := ⟨w1433, w1431, w1432, w103, w103, by decide +kernel⟩
theorem dX5_cell_0 : decode cX5_cell 0 = .ok (.iload_n 1, 1) := by decide +kernel
theorem dX5_cell_1 : decode cX5_cell 1 = .ok (.invokestatic 294, 3) := by decide +kernel
theorem dX5_cell_4 : decode cX5_cell 4 = .ok (.ifCond .ne 6, 3) := by decide +kernel
theorem dX5_cell_7 : decode cX5_cell 7 = .ok (.bipush (-2), 2) := by decide +kernel
theorem dX5_cell_9 : decode cX5_cell 9 = .ok (.ireturn, 1) := by decide +kernel
theorem dX5_cell_10 : decode cX5_cell 10 = .ok (.aload_n 0, 1) := by decide +kernel
theorem dX5_cell_11 : decode cX5_cell 11 = .ok (.getfield 56, 3) := by decide +kernel
theorem dX5_cell_14 : decode cX5_cell 14 = .ok (.iload_n 1, 1) := by decide +kernel
theorem dX5_cell_15 : decode cX5_cell 15 = .ok (.baload, 1) := by decide +kernel
theorem dX5_cell_16 : decode cX5_cell 16 = .ok (.ifCond .ne 6, 3) := by decide +kernel
theorem dX5_cell_19 : decode cX5_cell 19 = .ok (.bipush (-11), 2) := by decide +kernel
theorem dX5_cell_21 : decode cX5_cell 21 = .ok (.ireturn, 1) := by decide +kernel
theorem dX5_cell_22 : decode cX5_cell 22 = .ok (.iload_n 2, 1) := by decide +kernel
theorem dX5_cell_23 : decode cX5_cell 23 = .ok (.i2l, 1) := by decide +kernel
theorem dX5_cell_24 : decode cX5_cell 24 = .ok (.lconst 0, 1) := by decide +kernel
theorem dX5_cell_25 : decode cX5_cell 25 = .ok (.aload_n 0, 1) := by decide +kernel
theorem dX5_cell_26 : decode cX5_cell 26 = .ok (.getfield 63, 3) := by decide +kernel
theorem dX5_cell_29 : decode cX5_cell 29 = .ok (.iload_n 1, 1) := by decide +kernel
theorem dX5_cell_30 : decode cX5_cell 30 = .ok (.iaload, 1) := by decide +kernel
theorem dX5_cell_31 : decode cX5_cell 31 = .ok (.iconst 1, 1) := by decide +kernel
theorem dX5_cell_32 : decode cX5_cell 32 = .ok (.isub, 1) := by decide +kernel
theorem dX5_cell_33 : decode cX5_cell 33 = .ok (.i2l, 1) := by decide +kernel
theorem dX5_cell_34 : decode cX5_cell 34 = .ok (.invokestatic 79, 3) := by decide +kernel
theorem dX5_cell_37 : decode cX5_cell 37 = .ok (.ifCond .ne 6, 3) := by decide +kernel
theorem dX5_cell_40 : decode cX5_cell 40 = .ok (.bipush (-12), 2) := by decide +kernel
theorem dX5_cell_42 : decode cX5_cell 42 = .ok (.ireturn, 1) := by decide +kernel
theorem dX5_cell_43 : decode cX5_cell 43 = .ok (.aload_n 0, 1) := by decide +kernel
theorem dX5_cell_44 : decode cX5_cell 44 = .ok (.getfield 66, 3) := by decide +kernel
theorem dX5_cell_47 : decode cX5_cell 47 = .ok (.bipush 40, 2) := by decide +kernel
theorem dX5_cell_49 : decode cX5_cell 49 = .ok (.iload_n 1, 1) := by decide +kernel
theorem dX5_cell_50 : decode cX5_cell 50 = .ok (.imul, 1) := by decide +kernel
theorem dX5_cell_51 : decode cX5_cell 51 = .ok (.iload_n 2, 1) := by decide +kernel
theorem dX5_cell_52 : decode cX5_cell 52 = .ok (.iadd, 1) := by decide +kernel
theorem dX5_cell_53 : decode cX5_cell 53 = .ok (.aload_n 0, 1) := by decide +kernel
theorem dX5_cell_54 : decode cX5_cell 54 = .ok (.getfield 60, 3) := by decide +kernel
theorem dX5_cell_57 : decode cX5_cell 57 = .ok (.iload_n 1, 1) := by decide +kernel
theorem dX5_cell_58 : decode cX5_cell 58 = .ok (.iaload, 1) := by decide +kernel
theorem dX5_cell_59 : decode cX5_cell 59 = .ok (.ifCond .ne 8, 3) := by decide +kernel
theorem dX5_cell_62 : decode cX5_cell 62 = .ok (.iload_n 3, 1) := by decide +kernel
theorem dX5_cell_63 : decode cX5_cell 63 = .ok (.i2b, 1) := by decide +kernel
theorem dX5_cell_64 : decode cX5_cell 64 = .ok (.goto 19, 3) := by decide +kernel
theorem dX5_cell_67 : decode cX5_cell 67 = .ok (.aload_n 0, 1) := by decide +kernel
theorem dX5_cell_68 : decode cX5_cell 68 = .ok (.getfield 60, 3) := by decide +kernel
theorem dX5_cell_71 : decode cX5_cell 71 = .ok (.iload_n 1, 1) := by decide +kernel
theorem dX5_cell_72 : decode cX5_cell 72 = .ok (.iaload, 1) := by decide +kernel
theorem dX5_cell_73 : decode cX5_cell 73 = .ok (.iconst 1, 1) := by decide +kernel
theorem dX5_cell_74 : decode cX5_cell 74 = .ok (.if_icmp .ne 8, 3) := by decide +kernel
theorem dX5_cell_77 : decode cX5_cell 77 = .ok (.iload_n 3, 1) := by decide +kernel
theorem dX5_cell_78 : decode cX5_cell 78 = .ok (.i2s, 1) := by decide +kernel
theorem dX5_cell_79 : decode cX5_cell 79 = .ok (.goto 4, 3) := by decide +kernel
theorem dX5_cell_82 : decode cX5_cell 82 = .ok (.iload_n 3, 1) := by decide +kernel
theorem dX5_cell_83 : decode cX5_cell 83 = .ok (.iastore, 1) := by decide +kernel
theorem dX5_cell_84 : decode cX5_cell 84 = .ok (.iconst 1, 1) := by decide +kernel
theorem dX5_cell_85 : decode cX5_cell 85 = .ok (.ireturn, 1) := by decide +kernel
abbrev cX5_copy : ByteArray := prog_7_method_89_code
abbrev mX5_copy : MethodName := { cls := "KinInTheHeapModel", name := "copy", desc := "(IIIII)I" }
theorem mwX5_copy : MWV mX5_copy (.code mX5_copy cX5_copy 9 (some .int)) "KinInTheHeapModel" 5 := ⟨w1437, w1435, w1436, w103, w103, by decide +kernel⟩
theorem dX5_copy_0 : decode cX5_copy 0 = .ok (.iload_n 1, 1) := by decide +kernel
theorem dX5_copy_1 : decode cX5_copy 1 = .ok (.invokestatic 294, 3) := by decide +kernel
theorem dX5_copy_4 : decode cX5_copy 4 = .ok (.ifCond .eq 10, 3) := by decide +kernel
theorem dX5_copy_7 : decode cX5_copy 7 = .ok (.iload_n 3, 1) := by decide +kernel
theorem dX5_copy_8 : decode cX5_copy 8 = .ok (.invokestatic 294, 3) := by decide +kernel
theorem dX5_copy_11 : decode cX5_copy 11 = .ok (.ifCond .ne 6, 3) := by decide +kernel
theorem dX5_copy_14 : decode cX5_copy 14 = .ok (.bipush (-2), 2) := by decide +kernel
theorem dX5_copy_16 : decode cX5_copy 16 = .ok (.ireturn, 1) := by decide +kernel
theorem dX5_copy_17 : decode cX5_copy 17 = .ok (.aload_n 0, 1) := by decide +kernel
theorem dX5_copy_18 : decode cX5_copy 18 = .ok (.getfield 56, 3) := by decide +kernel
theorem dX5_copy_21 : decode cX5_copy 21 = .ok (.iload_n 1, 1) := by decide +kernel
theorem dX5_copy_22 : decode cX5_copy 22 = .ok (.baload, 1) := by decide +kernel
theorem dX5_copy_23 : decode cX5_copy 23 = .ok (.ifCond .eq 12, 3) := by decide +kernel
theorem dX5_copy_26 : decode cX5_copy 26 = .ok (.aload_n 0, 1) := by decide +kernel
theorem dX5_copy_27 : decode cX5_copy 27 = .ok (.getfield 56, 3) := by decide +kernel
theorem dX5_copy_30 : decode cX5_copy 30 = .ok (.iload_n 3, 1) := by decide +kernel
theorem dX5_copy_31 : decode cX5_copy 31 = .ok (.baload, 1) := by decide +kernel
theorem dX5_copy_32 : decode cX5_copy 32 = .ok (.ifCond .ne 6, 3) := by decide +kernel
theorem dX5_copy_35 : decode cX5_copy 35 = .ok (.bipush (-11), 2) := by decide +kernel
theorem dX5_copy_37 : decode cX5_copy 37 = .ok (.ireturn, 1) := by decide +kernel
theorem dX5_copy_38 : decode cX5_copy 38 = .ok (.aload_n 0, 1) := by decide +kernel
theorem dX5_copy_39 : decode cX5_copy 39 = .ok (.getfield 60, 3) := by decide +kernel
theorem dX5_copy_42 : decode cX5_copy 42 = .ok (.iload_n 1, 1) := by decide +kernel
theorem dX5_copy_43 : decode cX5_copy 43 = .ok (.iaload, 1) := by decide +kernel
theorem dX5_copy_44 : decode cX5_copy 44 = .ok (.aload_n 0, 1) := by decide +kernel
theorem dX5_copy_45 : decode cX5_copy 45 = .ok (.getfield 60, 3) := by decide +kernel
theorem dX5_copy_48 : decode cX5_copy 48 = .ok (.iload_n 3, 1) := by decide +kernel
theorem dX5_copy_49 : decode cX5_copy 49 = .ok (.iaload, 1) := by decide +kernel
theorem dX5_copy_50 : decode cX5_copy 50 = .ok (.if_icmp .eq 6, 3) := by decide +kernel
theorem dX5_copy_53 : decode cX5_copy 53 = .ok (.bipush (-13), 2) := by decide +kernel
theorem dX5_copy_55 : decode cX5_copy 55 = .ok (.ireturn, 1) := by decide +kernel
theorem dX5_copy_56 : decode cX5_copy 56 = .ok (.iload 5, 2) := by decide +kernel
theorem dX5_copy_58 : decode cX5_copy 58 = .ok (.ifCond .lt 39, 3) := by decide +kernel
theorem dX5_copy_61 : decode cX5_copy 61 = .ok (.iload_n 2, 1) := by decide +kernel
theorem dX5_copy_62 : decode cX5_copy 62 = .ok (.ifCond .lt 35, 3) := by decide +kernel
theorem dX5_copy_65 : decode cX5_copy 65 = .ok (.iload 4, 2) := by decide +kernel
theorem dX5_copy_67 : decode cX5_copy 67 = .ok (.ifCond .lt 30, 3) := by decide +kernel
theorem dX5_copy_70 : decode cX5_copy 70 = .ok (.iload_n 2, 1) := by decide +kernel
theorem dX5_copy_71 : decode cX5_copy 71 = .ok (.aload_n 0, 1) := by decide +kernel
theorem dX5_copy_72 : decode cX5_copy 72 = .ok (.getfield 63, 3) := by decide +kernel
theorem dX5_copy_75 : decode cX5_copy 75 = .ok (.iload_n 1, 1) := by decide +kernel
theorem dX5_copy_76 : decode cX5_copy 76 = .ok (.iaload, 1) := by decide +kernel
theorem dX5_copy_77 : decode cX5_copy 77 = .ok (.iload 5, 2) := by decide +kernel
theorem dX5_copy_79 : decode cX5_copy 79 = .ok (.isub, 1) := by decide +kernel
theorem dX5_copy_80 : decode cX5_copy 80 = .ok (.if_icmp .gt 17, 3) := by decide +kernel
theorem dX5_copy_83 : decode cX5_copy 83 = .ok (.iload 4, 2) := by decide +kernel
theorem dX5_copy_85 : decode cX5_copy 85 = .ok (.aload_n 0, 1) := by decide +kernel
theorem dX5_copy_86 : decode cX5_copy 86 = .ok (.getfield 63, 3) := by decide +kernel
theorem dX5_copy_89 : decode cX5_copy 89 = .ok (.iload_n 3, 1) := by decide +kernel
theorem dX5_copy_90 : decode cX5_copy 90 = .ok (.iaload, 1) := by decide +kernel
theorem dX5_copy_91 : decode cX5_copy 91 = .ok (.iload 5, 2) := by decide +kernel
theorem dX5_copy_93 : decode cX5_copy 93 = .ok (.isub, 1) := by decide +kernel
theorem dX5_copy_94 : decode cX5_copy 94 = .ok (.if_icmp .le 6, 3) := by decide +kernel
theorem dX5_copy_97 : decode cX5_copy 97 = .ok (.bipush (-12), 2) := by decide +kernel
theorem dX5_copy_99 : decode cX5_copy 99 = .ok (.ireturn, 1) := by decide +kernel
theorem dX5_copy_100 : decode cX5_copy 100 = .ok (.iload_n 1, 1) := by decide +kernel
theorem dX5_copy_101 : decode cX5_copy 101 = .ok (.iload_n 3, 1) := by decide +kernel
theorem dX5_copy_102 : decode cX5_copy 102 = .ok (.if_icmp .ne 13, 3) := by decide +kernel
theorem dX5_copy_105 : decode cX5_copy 105 = .ok (.iload_n 2, 1) := by decide +kernel
theorem dX5_copy_106 : decode cX5_copy 106 = .ok (.iload 4, 2) := by decide +kernel
theorem dX5_copy_108 : decode cX5_copy 108 = .ok (.if_icmp .ge 7, 3) := by decide +kernel
theorem dX5_copy_111 : decode cX5_copy 111 = .ok (.iconst 1, 1) := by decide +kernel
theorem dX5_copy_112 : decode cX5_copy 112 = .ok (.goto 4, 3) := by decide +kernel
theorem dX5_copy_115 : decode cX5_copy 115 = .ok (.iconst 0, 1) := by decide +kernel
theorem dX5_copy_116 : decode cX5_copy 116 = .ok (.istore 6, 2) := by decide +kernel
theorem dX5_copy_118 : decode cX5_copy 118 = .ok (.iconst 0, 1) := by decide +kernel
theorem dX5_copy_119 : decode cX5_copy 119 = .ok (.istore 7, 2) := by decide +kernel
theorem dX5_copy_121 : decode cX5_copy 121 = .ok (.iload 7, 2) := by decide +kernel
theorem dX5_copy_123 : decode cX5_copy 123 = .ok (.iload 5, 2) := by decide +kernel
theorem dX5_copy_125 : decode cX5_copy 125 = .ok (.if_icmp .ge 57, 3) := by decide +kernel
theorem dX5_copy_128 : decode cX5_copy 128 = .ok (.iload 6, 2) := by decide +kernel
theorem dX5_copy_130 : decode cX5_copy 130 = .ok (.ifCond .eq 13, 3) := by decide +kernel
theorem dX5_copy_133 : decode cX5_copy 133 = .ok (.iload 5, 2) := by decide +kernel
theorem dX5_copy_135 : decode cX5_copy 135 = .ok (.iconst 1, 1) := by decide +kernel
theorem dX5_copy_136 : decode cX5_copy 136 = .ok (.isub, 1) := by decide +kernel
theorem dX5_copy_137 : decode cX5_copy 137 = .ok (.iload 7, 2) := by decide +kernel
theorem dX5_copy_139 : decode cX5_copy 139 = .ok (.isub, 1) := by decide +kernel
theorem dX5_copy_140 : decode cX5_copy 140 = .ok (.goto 5, 3) := by decide +kernel
theorem dX5_copy_143 : decode cX5_copy 143 = .ok (.iload 7, 2) := by decide +kernel
theorem dX5_copy_145 : decode cX5_copy 145 = .ok (.istore 8, 2) := by decide +kernel
theorem dX5_copy_147 : decode cX5_copy 147 = .ok (.aload_n 0, 1) := by decide +kernel
theorem dX5_copy_148 : decode cX5_copy 148 = .ok (.getfield 66, 3) := by decide +kernel
theorem dX5_copy_151 : decode cX5_copy 151 = .ok (.bipush 40, 2) := by decide +kernel
theorem dX5_copy_153 : decode cX5_copy 153 = .ok (.iload_n 3, 1) := by decide +kernel
theorem dX5_copy_154 : decode cX5_copy 154 = .ok (.imul, 1) := by decide +kernel
theorem dX5_copy_155 : decode cX5_copy 155 = .ok (.iload 4, 2) := by decide +kernel
theorem dX5_copy_157 : decode cX5_copy 157 = .ok (.iadd, 1) := by decide +kernel
theorem dX5_copy_158 : decode cX5_copy 158 = .ok (.iload 8, 2) := by decide +kernel
theorem dX5_copy_160 : decode cX5_copy 160 = .ok (.iadd, 1) := by decide +kernel
theorem dX5_copy_161 : decode cX5_copy 161 = .ok (.aload_n 0, 1) := by decide +kernel
theorem dX5_copy_162 : decode cX5_copy 162 = .ok (.getfield 66, 3) := by decide +kernel
theorem dX5_copy_165 : decode cX5_copy 165 = .ok (.bipush 40, 2) := by decide +kernel
theorem dX5_copy_167 : decode cX5_copy 167 = .ok (.iload_n 1, 1) := by decide +kernel
theorem dX5_copy_168 : decode cX5_copy 168 = .ok (.imul, 1) := by decide +kernel
theorem dX5_copy_169 : decode cX5_copy 169 = .ok (.iload_n 2, 1) := by decide +kernel
theorem dX5_copy_170 : decode cX5_copy 170 = .ok (.iadd, 1) := by decide +kernel
theorem dX5_copy_171 : decode cX5_copy 171 = .ok (.iload 8, 2) := by decide +kernel
theorem dX5_copy_173 : decode cX5_copy 173 = .ok (.iadd, 1) := by decide +kernel
theorem dX5_copy_174 : decode cX5_copy 174 = .ok (.iaload, 1) := by decide +kernel
theorem dX5_copy_175 : decode cX5_copy 175 = .ok (.iastore, 1) := by decide +kernel
theorem dX5_copy_176 : decode cX5_copy 176 = .ok (.iinc 7 1, 3) := by decide +kernel
theorem dX5_copy_179 : decode cX5_copy 179 = .ok (.goto (-58), 3) := by decide +kernel
theorem dX5_copy_182 : decode cX5_copy 182 = .ok (.iload 5, 2) := by decide +kernel
theorem dX5_copy_184 : decode cX5_copy 184 = .ok (.ireturn, 1) := by decide +kernel
abbrev cX5_heap : ByteArray := prog_7_method_90_code
abbrev mX5_heap : MethodName := { cls := "KinInTheHeapModel", name := "heap", desc := "(IIII)I" }
theorem mwX5_heap : MWV mX5_heap (.code mX5_heap cX5_heap 8 (some .int)) "KinInTheHeapModel" 4 := ⟨w1441, w1439, w1440, w103, w103, by decide +kernel⟩
theorem dX5_heap_0 : decode cX5_heap 0 = .ok (.iload_n 1, 1) := by decide +kernel
theorem dX5_heap_1 : decode cX5_heap 1 = .ok (.invokestatic 294, 3) := by decide +kernel
theorem dX5_heap_4 : decode cX5_heap 4 = .ok (.ifCond .eq 28, 3) := by decide +kernel
theorem dX5_heap_7 : decode cX5_heap 7 = .ok (.iload_n 2, 1) := by decide +kernel
theorem dX5_heap_8 : decode cX5_heap 8 = .ok (.i2l, 1) := by decide +kernel
theorem dX5_heap_9 : decode cX5_heap 9 = .ok (.lconst 0, 1) := by decide +kernel
theorem dX5_heap_10 : decode cX5_heap 10 = .ok (.ldc2_w 383, 3) := by decide +kernel
theorem dX5_heap_13 : decode cX5_heap 13 = .ok (.invokestatic 79, 3) := by decide +kernel
theorem dX5_heap_16 : decode cX5_heap 16 = .ok (.ifCond .eq 16, 3) := by decide +kernel
theorem dX5_heap_19 : decode cX5_heap 19 = .ok (.iload 4, 2) := by decide +kernel
theorem dX5_heap_21 : decode cX5_heap 21 = .ok (.i2l, 1) := by decide +kernel
theorem dX5_heap_22 : decode cX5_heap 22 = .ok (.lconst 0, 1) := by decide +kernel
theorem dX5_heap_23 : decode cX5_heap 23 = .ok (.ldc2_w 372, 3) := by decide +kernel
theorem dX5_heap_26 : decode cX5_heap 26 = .ok (.invokestatic 79, 3) := by decide +kernel
theorem dX5_heap_29 : decode cX5_heap 29 = .ok (.ifCond .ne 6, 3) := by decide +kernel
theorem dX5_heap_32 : decode cX5_heap 32 = .ok (.bipush (-2), 2) := by decide +kernel
theorem dX5_heap_34 : decode cX5_heap 34 = .ok (.ireturn, 1) := by decide +kernel
theorem dX5_heap_35 : decode cX5_heap 35 = .ok (.aload_n 0, 1) := by decide +kernel
theorem dX5_heap_36 : decode cX5_heap 36 = .ok (.getfield 56, 3) := by decide +kernel
theorem dX5_heap_39 : decode cX5_heap 39 = .ok (.iload_n 1, 1) := by decide +kernel
theorem dX5_heap_40 : decode cX5_heap 40 = .ok (.baload, 1) := by decide +kernel
theorem dX5_heap_41 : decode cX5_heap 41 = .ok (.ifCond .eq 16, 3) := by decide +kernel
theorem dX5_heap_44 : decode cX5_heap 44 = .ok (.aload_n 0, 1) := by decide +kernel
theorem dX5_heap_45 : decode cX5_heap 45 = .ok (.getfield 60, 3) := by decide +kernel
theorem dX5_heap_48 : decode cX5_heap 48 = .ok (.iload_n 1, 1) := by decide +kernel
theorem dX5_heap_49 : decode cX5_heap 49 = .ok (.iaload, 1) := by decide +kernel
theorem dX5_heap_50 : decode cX5_heap 50 = .ok (.iload_n 2, 1) := by decide +kernel
theorem dX5_heap_51 : decode cX5_heap 51 = .ok (.if_icmp .eq 6, 3) := by decide +kernel
theorem dX5_heap_54 : decode cX5_heap 54 = .ok (.bipush (-13), 2) := by decide +kernel
theorem dX5_heap_56 : decode cX5_heap 56 = .ok (.ireturn, 1) := by decide +kernel
theorem dX5_heap_57 : decode cX5_heap 57 = .ok (.aload_n 0, 1) := by decide +kernel
theorem dX5_heap_58 : decode cX5_heap 58 = .ok (.getfield 56, 3) := by decide +kernel
theorem dX5_heap_61 : decode cX5_heap 61 = .ok (.iload_n 1, 1) := by decide +kernel
theorem dX5_heap_62 : decode cX5_heap 62 = .ok (.baload, 1) := by decide +kernel
theorem dX5_heap_63 : decode cX5_heap 63 = .ok (.ifCond .ne 6, 3) := by decide +kernel
theorem dX5_heap_66 : decode cX5_heap 66 = .ok (.bipush (-11), 2) := by decide +kernel
theorem dX5_heap_68 : decode cX5_heap 68 = .ok (.ireturn, 1) := by decide +kernel
theorem dX5_heap_69 : decode cX5_heap 69 = .ok (.iconst 0, 1) := by decide +kernel
theorem dX5_heap_70 : decode cX5_heap 70 = .ok (.istore 5, 2) := by decide +kernel
theorem dX5_heap_72 : decode cX5_heap 72 = .ok (.iconst 0, 1) := by decide +kernel
theorem dX5_heap_73 : decode cX5_heap 73 = .ok (.istore 6, 2) := by decide +kernel
theorem dX5_heap_75 : decode cX5_heap 75 = .ok (.iload 6, 2) := by decide +kernel
theorem dX5_heap_77 : decode cX5_heap 77 = .ok (.iload 4, 2) := by decide +kernel
theorem dX5_heap_79 : decode cX5_heap 79 = .ok (.if_icmp .ge 88, 3) := by decide +kernel
theorem dX5_heap_82 : decode cX5_heap 82 = .ok (.iload_n 3, 1) := by decide +kernel
theorem dX5_heap_83 : decode cX5_heap 83 = .ok (.ifCond .lt 20, 3) := by decide +kernel
theorem dX5_heap_86 : decode cX5_heap 86 = .ok (.iload_n 3, 1) := by decide +kernel
theorem dX5_heap_87 : decode cX5_heap 87 = .ok (.aload_n 0, 1) := by decide +kernel
theorem dX5_heap_88 : decode cX5_heap 88 = .ok (.getfield 63, 3) := by decide +kernel
theorem dX5_heap_91 : decode cX5_heap 91 = .ok (.iload_n 1, 1) := by decide +kernel
theorem dX5_heap_92 : decode cX5_heap 92 = .ok (.iaload, 1) := by decide +kernel
theorem dX5_heap_93 : decode cX5_heap 93 = .ok (.iconst 3, 1) := by decide +kernel
theorem dX5_heap_94 : decode cX5_heap 94 = .ok (.iload 6, 2) := by decide +kernel
theorem dX5_heap_96 : decode cX5_heap 96 = .ok (.imul, 1) := by decide +kernel
theorem dX5_heap_97 : decode cX5_heap 97 = .ok (.isub, 1) := by decide +kernel
theorem dX5_heap_98 : decode cX5_heap 98 = .ok (.iconst 3, 1) := by decide +kernel
theorem dX5_heap_99 : decode cX5_heap 99 = .ok (.isub, 1) := by decide +kernel
theorem dX5_heap_100 : decode cX5_heap 100 = .ok (.if_icmp .le 6, 3) := by decide +kernel
theorem dX5_heap_103 : decode cX5_heap 103 = .ok (.bipush (-12), 2) := by decide +kernel
theorem dX5_heap_105 : decode cX5_heap 105 = .ok (.ireturn, 1) := by decide +kernel
theorem dX5_heap_106 : decode cX5_heap 106 = .ok (.bipush 40, 2) := by decide +kernel
theorem dX5_heap_108 : decode cX5_heap 108 = .ok (.iload_n 1, 1) := by decide +kernel
theorem dX5_heap_109 : decode cX5_heap 109 = .ok (.imul, 1) := by decide +kernel
theorem dX5_heap_110 : decode cX5_heap 110 = .ok (.iload_n 3, 1) := by decide +kernel
theorem dX5_heap_111 : decode cX5_heap 111 = .ok (.iadd, 1) := by decide +kernel
theorem dX5_heap_112 : decode cX5_heap 112 = .ok (.iconst 3, 1) := by decide +kernel
theorem dX5_heap_113 : decode cX5_heap 113 = .ok (.iload 6, 2) := by decide +kernel
theorem dX5_heap_115 : decode cX5_heap 115 = .ok (.imul, 1) := by decide +kernel
theorem dX5_heap_116 : decode cX5_heap 116 = .ok (.iadd, 1) := by decide +kernel
theorem dX5_heap_117 : decode cX5_heap 117 = .ok (.istore 7, 2) := by decide +kernel
theorem dX5_heap_119 : decode cX5_heap 119 = .ok (.iload 5, 2) := by decide +kernel
theorem dX5_heap_121 : decode cX5_heap 121 = .ok (.aload_n 0, 1) := by decide +kernel
theorem dX5_heap_122 : decode cX5_heap 122 = .ok (.aload_n 0, 1) := by decide +kernel
theorem dX5_heap_123 : decode cX5_heap 123 = .ok (.getfield 66, 3) := by decide +kernel
theorem dX5_heap_126 : decode cX5_heap 126 = .ok (.iload 7, 2) := by decide +kernel
theorem dX5_heap_128 : decode cX5_heap 128 = .ok (.iaload, 1) := by decide +kernel
theorem dX5_heap_129 : decode cX5_heap 129 = .ok (.aload_n 0, 1) := by decide +kernel
theorem dX5_heap_130 : decode cX5_heap 130 = .ok (.getfield 66, 3) := by decide +kernel
theorem dX5_heap_133 : decode cX5_heap 133 = .ok (.iload 7, 2) := by decide +kernel
theorem dX5_heap_135 : decode cX5_heap 135 = .ok (.iconst 1, 1) := by decide +kernel
theorem dX5_heap_136 : decode cX5_heap 136 = .ok (.iadd, 1) := by decide +kernel
theorem dX5_heap_137 : decode cX5_heap 137 = .ok (.iaload, 1) := by decide +kernel
theorem dX5_heap_138 : decode cX5_heap 138 = .ok (.aload_n 0, 1) := by decide +kernel
theorem dX5_heap_139 : decode cX5_heap 139 = .ok (.getfield 66, 3) := by decide +kernel
theorem dX5_heap_142 : decode cX5_heap 142 = .ok (.iload 7, 2) := by decide +kernel
theorem dX5_heap_144 : decode cX5_heap 144 = .ok (.iconst 2, 1) := by decide +kernel
theorem dX5_heap_145 : decode cX5_heap 145 = .ok (.iadd, 1) := by decide +kernel
theorem dX5_heap_146 : decode cX5_heap 146 = .ok (.iaload, 1) := by decide +kernel
theorem dX5_heap_147 : decode cX5_heap 147 = .ok (.invokevirtual 385, 3) := by decide +kernel
theorem dX5_heap_150 : decode cX5_heap 150 = .ok (.ifCond .lt 7, 3) := by decide +kernel
theorem dX5_heap_153 : decode cX5_heap 153 = .ok (.iconst 1, 1) := by decide +kernel
theorem dX5_heap_154 : decode cX5_heap 154 = .ok (.goto 4, 3) := by decide +kernel
theorem dX5_heap_157 : decode cX5_heap 157 = .ok (.iconst 0, 1) := by decide +kernel
theorem dX5_heap_158 : decode cX5_heap 158 = .ok (.iadd, 1) := by decide +kernel
theorem dX5_heap_159 : decode cX5_heap 159 = .ok (.istore 5, 2) := by decide +kernel
theorem dX5_heap_161 : decode cX5_heap 161 = .ok (.iinc 6 1, 3) := by decide +kernel
theorem dX5_heap_164 : decode cX5_heap 164 = .ok (.goto (-89), 3) := by decide +kernel
theorem dX5_heap_167 : decode cX5_heap 167 = .ok (.iload 5, 2) := by decide +kernel
theorem dX5_heap_169 : decode cX5_heap 169 = .ok (.ireturn, 1) := by decide +kernel
abbrev cX5_over : ByteArray := prog_7_method_91_code
abbrev mX5_over : MethodName := { cls := "KinInTheHeapModel", name := "over", desc := "(I)I" }
theorem mwX5_over : MWS mX5_over (.code mX5_over cX5_over 1 (some .int)) 1 := ⟨w1449, w1448, w103, by decide +kernel⟩
theorem dX5_over_0 : decode cX5_over 0 = .ok (.iload_n 0, 1) := by decide +kernel
theorem dX5_over_1 : decode cX5_over 1 = .ok (.ifCond .ne 7, 3) := by decide +kernel
theorem dX5_over_4 : decode cX5_over 4 = .ok (.iconst (-1), 1) := by decide +kernel
theorem dX5_over_5 : decode cX5_over 5 = .ok (.goto 22, 3) := by decide +kernel
theorem dX5_over_8 : decode cX5_over 8 = .ok (.iload_n 0, 1) := by decide +kernel
theorem dX5_over_9 : decode cX5_over 9 = .ok (.iconst 3, 1) := by decide +kernel
theorem dX5_over_10 : decode cX5_over 10 = .ok (.if_icmp .ne 7, 3) := by decide +kernel
theorem dX5_over_13 : decode cX5_over 13 = .ok (.iconst 1, 1) := by decide +kernel
theorem dX5_over_14 : decode cX5_over 14 = .ok (.goto 13, 3) := by decide +kernel
theorem dX5_over_17 : decode cX5_over 17 = .ok (.iload_n 0, 1) := by decide +kernel
theorem dX5_over_18 : decode cX5_over 18 = .ok (.iconst 4, 1) := by decide +kernel
theorem dX5_over_19 : decode cX5_over 19 = .ok (.if_icmp .ne 7, 3) := by decide +kernel
theorem dX5_over_22 : decode cX5_over 22 = .ok (.iconst 2, 1) := by decide +kernel
theorem dX5_over_23 : decode cX5_over 23 = .ok (.goto 4, 3) := by decide +kernel
theorem dX5_over_26 : decode cX5_over 26 = .ok (.iconst 0, 1) := by decide +kernel
theorem dX5_over_27 : decode cX5_over 27 = .ok (.ireturn, 1) := by decide +kernel
abbrev cX5_taken : ByteArray := prog_7_method_92_code
abbrev mX5_taken : MethodName := { cls := "KinInTheHeapModel", name := "taken", desc := "(II)I" }
theorem mwX5_taken : MWV mX5_taken (.code mX5_taken cX5_taken 4 (some .int)) "KinInTheHeapModel" 2 := ⟨w1446, w1444, w1445, w103, w103, by decide +kernel⟩
theorem dX5_taken_0 : decode cX5_taken 0 = .ok (.iload_n 2, 1) := by decide +kernel
theorem dX5_taken_1 : decode cX5_taken 1 = .ok (.i2l, 1) := by decide +kernel
theorem dX5_taken_2 : decode cX5_taken 2 = .ok (.lconst 0, 1) := by decide +kernel
theorem dX5_taken_3 : decode cX5_taken 3 = .ok (.ldc2_w 118, 3) := by decide +kernel
theorem dX5_taken_6 : decode cX5_taken 6 = .ok (.invokestatic 79, 3) := by decide +kernel
theorem dX5_taken_9 : decode cX5_taken 9 = .ok (.ifCond .ne 6, 3) := by decide +kernel
theorem dX5_taken_12 : decode cX5_taken 12 = .ok (.bipush (-2), 2) := by decide +kernel
theorem dX5_taken_14 : decode cX5_taken 14 = .ok (.ireturn, 1) := by decide +kernel
theorem dX5_taken_15 : decode cX5_taken 15 = .ok (.aload_n 0, 1) := by decide +kernel
theorem dX5_taken_16 : decode cX5_taken 16 = .ok (.iload_n 1, 1) := by decide +kernel
theorem dX5_taken_17 : decode cX5_taken 17 = .ok (.invokevirtual 89, 3) := by decide +kernel
theorem dX5_taken_20 : decode cX5_taken 20 = .ok (.ifCond .ne 6, 3) := by decide +kernel
theorem dX5_taken_23 : decode cX5_taken 23 = .ok (.bipush (-11), 2) := by decide +kernel
theorem dX5_taken_25 : decode cX5_taken 25 = .ok (.ireturn, 1) := by decide +kernel
theorem dX5_taken_26 : decode cX5_taken 26 = .ok (.aload_n 0, 1) := by decide +kernel
theorem dX5_taken_27 : decode cX5_taken 27 = .ok (.getfield 29, 3) := by decide +kernel
theorem dX5_taken_30 : decode cX5_taken 30 = .ok (.iload_n 1, 1) := by decide +kernel
theorem dX5_taken_31 : decode cX5_taken 31 = .ok (.iaload, 1) := by decide +kernel
theorem dX5_taken_32 : decode cX5_taken 32 = .ok (.istore_n 3, 1) := by decide +kernel
theorem dX5_taken_33 : decode cX5_taken 33 = .ok (.iload_n 3, 1) := by decide +kernel
theorem dX5_taken_34 : decode cX5_taken 34 = .ok (.iconst (-1), 1) := by decide +kernel
theorem dX5_taken_35 : decode cX5_taken 35 = .ok (.if_icmp .eq 16, 3) := by decide +kernel
theorem dX5_taken_38 : decode cX5_taken 38 = .ok (.iload_n 3, 1) := by decide +kernel
theorem dX5_taken_39 : decode cX5_taken 39 = .ok (.iload_n 2, 1) := by decide +kernel
theorem dX5_taken_40 : decode cX5_taken 40 = .ok (.if_icmp .eq 11, 3) := by decide +kernel
theorem dX5_taken_43 : decode cX5_taken 43 = .ok (.iload_n 3, 1) := by decide +kernel
theorem dX5_taken_44 : decode cX5_taken 44 = .ok (.invokestatic 388, 3) := by decide +kernel
theorem dX5_taken_47 : decode cX5_taken 47 = .ok (.istore_n 3, 1) := by decide +kernel
theorem dX5_taken_48 : decode cX5_taken 48 = .ok (.goto (-15), 3) := by decide +kernel
theorem dX5_taken_51 : decode cX5_taken 51 = .ok (.iload_n 3, 1) := by decide +kernel
theorem dX5_taken_52 : decode cX5_taken 52 = .ok (.iload_n 2, 1) := by decide +kernel
theorem dX5_taken_53 : decode cX5_taken 53 = .ok (.if_icmp .ne 12, 3) := by decide +kernel
theorem dX5_taken_56 : decode cX5_taken 56 = .ok (.aload_n 0, 1) := by decide +kernel
theorem dX5_taken_57 : decode cX5_taken 57 = .ok (.getfield 32, 3) := by decide +kernel
theorem dX5_taken_60 : decode cX5_taken 60 = .ok (.iload_n 1, 1) := by decide +kernel
theorem dX5_taken_61 : decode cX5_taken 61 = .ok (.iaload, 1) := by decide +kernel
theorem dX5_taken_62 : decode cX5_taken 62 = .ok (.goto 5, 3) := by decide +kernel
theorem dX5_taken_65 : decode cX5_taken 65 = .ok (.bipush (-13), 2) := by decide +kernel
theorem dX5_taken_67 : decode cX5_taken 67 = .ok (.ireturn, 1) := by decide +kernel
