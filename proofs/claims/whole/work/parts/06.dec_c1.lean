abbrev cX5_both : ByteArray := prog_7_method_28_code
abbrev mX5_both : MethodName := { cls := "KinInTheHeapModel", name := "both", desc := "()I" }
theorem mwX5_both : MWV mX5_both (.code mX5_both cX5_both 3 (some .int)) "KinInTheHeapModel" 0 := ⟨w1166, w1165, w63, w103, w103, by decide +kernel⟩
theorem dX5_both_0 : decode cX5_both 0 = .ok (.aload_n 0, 1) := by decide +kernel
theorem dX5_both_1 : decode cX5_both 1 = .ok (.invokevirtual 234, 3) := by decide +kernel
theorem dX5_both_4 : decode cX5_both 4 = .ok (.istore_n 1, 1) := by decide +kernel
theorem dX5_both_5 : decode cX5_both 5 = .ok (.aload_n 0, 1) := by decide +kernel
theorem dX5_both_6 : decode cX5_both 6 = .ok (.bipush 97, 2) := by decide +kernel
theorem dX5_both_8 : decode cX5_both 8 = .ok (.bipush 110, 2) := by decide +kernel
theorem dX5_both_10 : decode cX5_both 10 = .ok (.bipush 100, 2) := by decide +kernel
theorem dX5_both_12 : decode cX5_both 12 = .ok (.iconst 0, 1) := by decide +kernel
theorem dX5_both_13 : decode cX5_both 13 = .ok (.iconst 0, 1) := by decide +kernel
theorem dX5_both_14 : decode cX5_both 14 = .ok (.iconst 0, 1) := by decide +kernel
theorem dX5_both_15 : decode cX5_both 15 = .ok (.iconst 0, 1) := by decide +kernel
theorem dX5_both_16 : decode cX5_both 16 = .ok (.iconst 0, 1) := by decide +kernel
theorem dX5_both_17 : decode cX5_both 17 = .ok (.invokevirtual 190, 3) := by decide +kernel
theorem dX5_both_20 : decode cX5_both 20 = .ok (.ifCond .eq 29, 3) := by decide +kernel
theorem dX5_both_23 : decode cX5_both 23 = .ok (.aload_n 0, 1) := by decide +kernel
theorem dX5_both_24 : decode cX5_both 24 = .ok (.invokevirtual 187, 3) := by decide +kernel
theorem dX5_both_27 : decode cX5_both 27 = .ok (.aload_n 0, 1) := by decide +kernel
theorem dX5_both_28 : decode cX5_both 28 = .ok (.invokevirtual 234, 3) := by decide +kernel
theorem dX5_both_31 : decode cX5_both 31 = .ok (.istore_n 2, 1) := by decide +kernel
theorem dX5_both_32 : decode cX5_both 32 = .ok (.iload_n 1, 1) := by decide +kernel
theorem dX5_both_33 : decode cX5_both 33 = .ok (.ifCond .eq 11, 3) := by decide +kernel
theorem dX5_both_36 : decode cX5_both 36 = .ok (.iload_n 2, 1) := by decide +kernel
theorem dX5_both_37 : decode cX5_both 37 = .ok (.ifCond .eq 7, 3) := by decide +kernel
theorem dX5_both_40 : decode cX5_both 40 = .ok (.iconst 1, 1) := by decide +kernel
theorem dX5_both_41 : decode cX5_both 41 = .ok (.goto 4, 3) := by decide +kernel
theorem dX5_both_44 : decode cX5_both 44 = .ok (.iconst 0, 1) := by decide +kernel
theorem dX5_both_45 : decode cX5_both 45 = .ok (.istore_n 1, 1) := by decide +kernel
theorem dX5_both_46 : decode cX5_both 46 = .ok (.goto (-41), 3) := by decide +kernel
theorem dX5_both_49 : decode cX5_both 49 = .ok (.iload_n 1, 1) := by decide +kernel
theorem dX5_both_50 : decode cX5_both 50 = .ok (.ireturn, 1) := by decide +kernel
abbrev cX5_either : ByteArray := prog_7_method_29_code
abbrev mX5_either : MethodName := { cls := "KinInTheHeapModel", name := "either", desc := "()I" }
theorem mwX5_either : MWV mX5_either (.code mX5_either cX5_either 3 (some .int)) "KinInTheHeapModel" 0 := ⟨w1162, w1161, w62, w103, w103, by decide +kernel⟩
theorem dX5_either_0 : decode cX5_either 0 = .ok (.aload_n 0, 1) := by decide +kernel
theorem dX5_either_1 : decode cX5_either 1 = .ok (.invokevirtual 242, 3) := by decide +kernel
theorem dX5_either_4 : decode cX5_either 4 = .ok (.istore_n 1, 1) := by decide +kernel
theorem dX5_either_5 : decode cX5_either 5 = .ok (.aload_n 0, 1) := by decide +kernel
theorem dX5_either_6 : decode cX5_either 6 = .ok (.bipush 111, 2) := by decide +kernel
theorem dX5_either_8 : decode cX5_either 8 = .ok (.bipush 114, 2) := by decide +kernel
theorem dX5_either_10 : decode cX5_either 10 = .ok (.iconst 0, 1) := by decide +kernel
theorem dX5_either_11 : decode cX5_either 11 = .ok (.iconst 0, 1) := by decide +kernel
theorem dX5_either_12 : decode cX5_either 12 = .ok (.iconst 0, 1) := by decide +kernel
theorem dX5_either_13 : decode cX5_either 13 = .ok (.iconst 0, 1) := by decide +kernel
theorem dX5_either_14 : decode cX5_either 14 = .ok (.iconst 0, 1) := by decide +kernel
theorem dX5_either_15 : decode cX5_either 15 = .ok (.iconst 0, 1) := by decide +kernel
theorem dX5_either_16 : decode cX5_either 16 = .ok (.invokevirtual 190, 3) := by decide +kernel
theorem dX5_either_19 : decode cX5_either 19 = .ok (.ifCond .eq 29, 3) := by decide +kernel
theorem dX5_either_22 : decode cX5_either 22 = .ok (.aload_n 0, 1) := by decide +kernel
theorem dX5_either_23 : decode cX5_either 23 = .ok (.invokevirtual 187, 3) := by decide +kernel
theorem dX5_either_26 : decode cX5_either 26 = .ok (.aload_n 0, 1) := by decide +kernel
theorem dX5_either_27 : decode cX5_either 27 = .ok (.invokevirtual 242, 3) := by decide +kernel
theorem dX5_either_30 : decode cX5_either 30 = .ok (.istore_n 2, 1) := by decide +kernel
theorem dX5_either_31 : decode cX5_either 31 = .ok (.iload_n 1, 1) := by decide +kernel
theorem dX5_either_32 : decode cX5_either 32 = .ok (.ifCond .ne 7, 3) := by decide +kernel
theorem dX5_either_35 : decode cX5_either 35 = .ok (.iload_n 2, 1) := by decide +kernel
theorem dX5_either_36 : decode cX5_either 36 = .ok (.ifCond .eq 7, 3) := by decide +kernel
theorem dX5_either_39 : decode cX5_either 39 = .ok (.iconst 1, 1) := by decide +kernel
theorem dX5_either_40 : decode cX5_either 40 = .ok (.goto 4, 3) := by decide +kernel
theorem dX5_either_43 : decode cX5_either 43 = .ok (.iconst 0, 1) := by decide +kernel
theorem dX5_either_44 : decode cX5_either 44 = .ok (.istore_n 1, 1) := by decide +kernel
theorem dX5_either_45 : decode cX5_either 45 = .ok (.goto (-40), 3) := by decide +kernel
theorem dX5_either_48 : decode cX5_either 48 = .ok (.iload_n 1, 1) := by decide +kernel
theorem dX5_either_49 : decode cX5_either 49 = .ok (.ireturn, 1) := by decide +kernel
abbrev cX5_part : ByteArray := prog_7_method_30_code
abbrev mX5_part : MethodName := { cls := "KinInTheHeapModel", name := "part", desc := "(Z)I" }
theorem mwX5_part : MWV mX5_part (.code mX5_part cX5_part 3 (some .int)) "KinInTheHeapModel" 1 := ⟨w1154, w1153, w60, w103, w103, by decide +kernel⟩
theorem dX5_part_0 : decode cX5_part 0 = .ok (.iload_n 1, 1) := by decide +kernel
theorem dX5_part_1 : decode cX5_part 1 = .ok (.ifCond .ne 7, 3) := by decide +kernel
theorem dX5_part_4 : decode cX5_part 4 = .ok (.aload_n 0, 1) := by decide +kernel
theorem dX5_part_5 : decode cX5_part 5 = .ok (.invokevirtual 184, 3) := by decide +kernel
theorem dX5_part_8 : decode cX5_part 8 = .ok (.aload_n 0, 1) := by decide +kernel
theorem dX5_part_9 : decode cX5_part 9 = .ok (.getfield 171, 3) := by decide +kernel
theorem dX5_part_12 : decode cX5_part 12 = .ok (.ifCond .ne 7, 3) := by decide +kernel
theorem dX5_part_15 : decode cX5_part 15 = .ok (.aload_n 0, 1) := by decide +kernel
theorem dX5_part_16 : decode cX5_part 16 = .ok (.invokevirtual 187, 3) := by decide +kernel
theorem dX5_part_19 : decode cX5_part 19 = .ok (.aload_n 0, 1) := by decide +kernel
theorem dX5_part_20 : decode cX5_part 20 = .ok (.getfield 171, 3) := by decide +kernel
theorem dX5_part_23 : decode cX5_part 23 = .ok (.ifCond .eq 7, 3) := by decide +kernel
theorem dX5_part_26 : decode cX5_part 26 = .ok (.iconst 0, 1) := by decide +kernel
theorem dX5_part_27 : decode cX5_part 27 = .ok (.goto 7, 3) := by decide +kernel
theorem dX5_part_30 : decode cX5_part 30 = .ok (.aload_n 0, 1) := by decide +kernel
theorem dX5_part_31 : decode cX5_part 31 = .ok (.invokevirtual 223, 3) := by decide +kernel
theorem dX5_part_34 : decode cX5_part 34 = .ok (.istore_n 2, 1) := by decide +kernel
theorem dX5_part_35 : decode cX5_part 35 = .ok (.aload_n 0, 1) := by decide +kernel
theorem dX5_part_36 : decode cX5_part 36 = .ok (.bipush 59, 2) := by decide +kernel
theorem dX5_part_38 : decode cX5_part 38 = .ok (.invokevirtual 212, 3) := by decide +kernel
theorem dX5_part_41 : decode cX5_part 41 = .ok (.ifCond .ne 7, 3) := by decide +kernel
theorem dX5_part_44 : decode cX5_part 44 = .ok (.aload_n 0, 1) := by decide +kernel
theorem dX5_part_45 : decode cX5_part 45 = .ok (.invokevirtual 184, 3) := by decide +kernel
theorem dX5_part_48 : decode cX5_part 48 = .ok (.aload_n 0, 1) := by decide +kernel
theorem dX5_part_49 : decode cX5_part 49 = .ok (.getfield 171, 3) := by decide +kernel
theorem dX5_part_52 : decode cX5_part 52 = .ok (.ifCond .ne 7, 3) := by decide +kernel
theorem dX5_part_55 : decode cX5_part 55 = .ok (.aload_n 0, 1) := by decide +kernel
theorem dX5_part_56 : decode cX5_part 56 = .ok (.invokevirtual 187, 3) := by decide +kernel
theorem dX5_part_59 : decode cX5_part 59 = .ok (.iload_n 2, 1) := by decide +kernel
theorem dX5_part_60 : decode cX5_part 60 = .ok (.ireturn, 1) := by decide +kernel
abbrev cX5_read : ByteArray := prog_7_method_31_code
abbrev mX5_read : MethodName := { cls := "KinInTheHeapModel", name := "read", desc := "(II)I" }
theorem mwX5_read : MWV mX5_read (.code mX5_read cX5_read 6 (some .int)) "KinInTheHeapModel" 2 := ⟨w1130, w1129, w55, w103, w103, by decide +kernel⟩
theorem dX5_read_0 : decode cX5_read 0 = .ok (.aload_n 0, 1) := by decide +kernel
theorem dX5_read_1 : decode cX5_read 1 = .ok (.sipush 160, 3) := by decide +kernel
theorem dX5_read_4 : decode cX5_read 4 = .ok (.iload_n 1, 1) := by decide +kernel
theorem dX5_read_5 : decode cX5_read 5 = .ok (.imul, 1) := by decide +kernel
theorem dX5_read_6 : decode cX5_read 6 = .ok (.putfield 144, 3) := by decide +kernel
theorem dX5_read_9 : decode cX5_read 9 = .ok (.aload_n 0, 1) := by decide +kernel
theorem dX5_read_10 : decode cX5_read 10 = .ok (.aload_n 0, 1) := by decide +kernel
theorem dX5_read_11 : decode cX5_read 11 = .ok (.getfield 17, 3) := by decide +kernel
theorem dX5_read_14 : decode cX5_read 14 = .ok (.iload_n 1, 1) := by decide +kernel
theorem dX5_read_15 : decode cX5_read 15 = .ok (.iaload, 1) := by decide +kernel
theorem dX5_read_16 : decode cX5_read 16 = .ok (.putfield 141, 3) := by decide +kernel
theorem dX5_read_19 : decode cX5_read 19 = .ok (.aload_n 0, 1) := by decide +kernel
theorem dX5_read_20 : decode cX5_read 20 = .ok (.iconst 0, 1) := by decide +kernel
theorem dX5_read_21 : decode cX5_read 21 = .ok (.putfield 147, 3) := by decide +kernel
theorem dX5_read_24 : decode cX5_read 24 = .ok (.aload_n 0, 1) := by decide +kernel
theorem dX5_read_25 : decode cX5_read 25 = .ok (.iconst 0, 1) := by decide +kernel
theorem dX5_read_26 : decode cX5_read 26 = .ok (.putfield 181, 3) := by decide +kernel
theorem dX5_read_29 : decode cX5_read 29 = .ok (.aload_n 0, 1) := by decide +kernel
theorem dX5_read_30 : decode cX5_read 30 = .ok (.iconst 0, 1) := by decide +kernel
theorem dX5_read_31 : decode cX5_read 31 = .ok (.putfield 171, 3) := by decide +kernel
theorem dX5_read_34 : decode cX5_read 34 = .ok (.aload_n 0, 1) := by decide +kernel
theorem dX5_read_35 : decode cX5_read 35 = .ok (.invokevirtual 187, 3) := by decide +kernel
theorem dX5_read_38 : decode cX5_read 38 = .ok (.aload_n 0, 1) := by decide +kernel
theorem dX5_read_39 : decode cX5_read 39 = .ok (.aload_n 0, 1) := by decide +kernel
theorem dX5_read_40 : decode cX5_read 40 = .ok (.bipush 103, 2) := by decide +kernel
theorem dX5_read_42 : decode cX5_read 42 = .ok (.bipush 111, 2) := by decide +kernel
theorem dX5_read_44 : decode cX5_read 44 = .ok (.bipush 101, 2) := by decide +kernel
theorem dX5_read_46 : decode cX5_read 46 = .ok (.bipush 115, 2) := by decide +kernel
theorem dX5_read_48 : decode cX5_read 48 = .ok (.iconst 0, 1) := by decide +kernel
theorem dX5_read_49 : decode cX5_read 49 = .ok (.iconst 0, 1) := by decide +kernel
theorem dX5_read_50 : decode cX5_read 50 = .ok (.iconst 0, 1) := by decide +kernel
theorem dX5_read_51 : decode cX5_read 51 = .ok (.iconst 0, 1) := by decide +kernel
theorem dX5_read_52 : decode cX5_read 52 = .ok (.invokevirtual 190, 3) := by decide +kernel
theorem dX5_read_55 : decode cX5_read 55 = .ok (.invokevirtual 245, 3) := by decide +kernel
theorem dX5_read_58 : decode cX5_read 58 = .ok (.istore_n 3, 1) := by decide +kernel
theorem dX5_read_59 : decode cX5_read 59 = .ok (.aload_n 0, 1) := by decide +kernel
theorem dX5_read_60 : decode cX5_read 60 = .ok (.getfield 171, 3) := by decide +kernel
theorem dX5_read_63 : decode cX5_read 63 = .ok (.ifCond .eq 7, 3) := by decide +kernel
theorem dX5_read_66 : decode cX5_read 66 = .ok (.iconst 0, 1) := by decide +kernel
theorem dX5_read_67 : decode cX5_read 67 = .ok (.goto 24, 3) := by decide +kernel
theorem dX5_read_70 : decode cX5_read 70 = .ok (.aload_n 0, 1) := by decide +kernel
theorem dX5_read_71 : decode cX5_read 71 = .ok (.aload_n 0, 1) := by decide +kernel
theorem dX5_read_72 : decode cX5_read 72 = .ok (.bipush 102, 2) := by decide +kernel
theorem dX5_read_74 : decode cX5_read 74 = .ok (.bipush 114, 2) := by decide +kernel
theorem dX5_read_76 : decode cX5_read 76 = .ok (.bipush 101, 2) := by decide +kernel
theorem dX5_read_78 : decode cX5_read 78 = .ok (.bipush 101, 2) := by decide +kernel
theorem dX5_read_80 : decode cX5_read 80 = .ok (.bipush 115, 2) := by decide +kernel
theorem dX5_read_82 : decode cX5_read 82 = .ok (.iconst 0, 1) := by decide +kernel
theorem dX5_read_83 : decode cX5_read 83 = .ok (.iconst 0, 1) := by decide +kernel
theorem dX5_read_84 : decode cX5_read 84 = .ok (.iconst 0, 1) := by decide +kernel
theorem dX5_read_85 : decode cX5_read 85 = .ok (.invokevirtual 190, 3) := by decide +kernel
theorem dX5_read_88 : decode cX5_read 88 = .ok (.invokevirtual 245, 3) := by decide +kernel
theorem dX5_read_91 : decode cX5_read 91 = .ok (.istore 4, 2) := by decide +kernel
theorem dX5_read_93 : decode cX5_read 93 = .ok (.aload_n 0, 1) := by decide +kernel
theorem dX5_read_94 : decode cX5_read 94 = .ok (.getfield 171, 3) := by decide +kernel
theorem dX5_read_97 : decode cX5_read 97 = .ok (.ifCond .eq 7, 3) := by decide +kernel
theorem dX5_read_100 : decode cX5_read 100 = .ok (.iconst 0, 1) := by decide +kernel
theorem dX5_read_101 : decode cX5_read 101 = .ok (.goto 24, 3) := by decide +kernel
theorem dX5_read_104 : decode cX5_read 104 = .ok (.aload_n 0, 1) := by decide +kernel
theorem dX5_read_105 : decode cX5_read 105 = .ok (.aload_n 0, 1) := by decide +kernel
theorem dX5_read_106 : decode cX5_read 106 = .ok (.bipush 100, 2) := by decide +kernel
theorem dX5_read_108 : decode cX5_read 108 = .ok (.bipush 114, 2) := by decide +kernel
theorem dX5_read_110 : decode cX5_read 110 = .ok (.bipush 97, 2) := by decide +kernel
theorem dX5_read_112 : decode cX5_read 112 = .ok (.bipush 119, 2) := by decide +kernel
theorem dX5_read_114 : decode cX5_read 114 = .ok (.bipush 115, 2) := by decide +kernel
theorem dX5_read_116 : decode cX5_read 116 = .ok (.iconst 0, 1) := by decide +kernel
theorem dX5_read_117 : decode cX5_read 117 = .ok (.iconst 0, 1) := by decide +kernel
theorem dX5_read_118 : decode cX5_read 118 = .ok (.iconst 0, 1) := by decide +kernel
theorem dX5_read_119 : decode cX5_read 119 = .ok (.invokevirtual 190, 3) := by decide +kernel
theorem dX5_read_122 : decode cX5_read 122 = .ok (.invokevirtual 245, 3) := by decide +kernel
theorem dX5_read_125 : decode cX5_read 125 = .ok (.istore 5, 2) := by decide +kernel
theorem dX5_read_127 : decode cX5_read 127 = .ok (.aload_n 0, 1) := by decide +kernel
theorem dX5_read_128 : decode cX5_read 128 = .ok (.getfield 171, 3) := by decide +kernel
theorem dX5_read_131 : decode cX5_read 131 = .ok (.ifCond .ne 14, 3) := by decide +kernel
theorem dX5_read_134 : decode cX5_read 134 = .ok (.aload_n 0, 1) := by decide +kernel
theorem dX5_read_135 : decode cX5_read 135 = .ok (.getfield 156, 3) := by decide +kernel
theorem dX5_read_138 : decode cX5_read 138 = .ok (.ifCond .eq 7, 3) := by decide +kernel
theorem dX5_read_141 : decode cX5_read 141 = .ok (.aload_n 0, 1) := by decide +kernel
theorem dX5_read_142 : decode cX5_read 142 = .ok (.invokevirtual 184, 3) := by decide +kernel
theorem dX5_read_145 : decode cX5_read 145 = .ok (.iload_n 2, 1) := by decide +kernel
theorem dX5_read_146 : decode cX5_read 146 = .ok (.ifCond .ne 7, 3) := by decide +kernel
theorem dX5_read_149 : decode cX5_read 149 = .ok (.iload_n 3, 1) := by decide +kernel
theorem dX5_read_150 : decode cX5_read 150 = .ok (.goto 15, 3) := by decide +kernel
theorem dX5_read_153 : decode cX5_read 153 = .ok (.iload_n 2, 1) := by decide +kernel
theorem dX5_read_154 : decode cX5_read 154 = .ok (.iconst 1, 1) := by decide +kernel
theorem dX5_read_155 : decode cX5_read 155 = .ok (.if_icmp .ne 8, 3) := by decide +kernel
theorem dX5_read_158 : decode cX5_read 158 = .ok (.iload 4, 2) := by decide +kernel
theorem dX5_read_160 : decode cX5_read 160 = .ok (.goto 5, 3) := by decide +kernel
theorem dX5_read_163 : decode cX5_read 163 = .ok (.iload 5, 2) := by decide +kernel
theorem dX5_read_165 : decode cX5_read 165 = .ok (.ireturn, 1) := by decide +kernel
abbrev cX5_text : ByteArray := prog_7_method_32_code
abbrev mX5_text : MethodName := { cls := "KinInTheHeapModel", name := "text", desc := "()I" }
theorem mwX5_text : MWV mX5_text (.code mX5_text cX5_text 2 (some .int)) "KinInTheHeapModel" 0 := ⟨w1227, w1225, w1226, w103, w103, by decide +kernel⟩
theorem dX5_text_0 : decode cX5_text 0 = .ok (.aload_n 0, 1) := by decide +kernel
theorem dX5_text_1 : decode cX5_text 1 = .ok (.getfield 73, 3) := by decide +kernel
theorem dX5_text_4 : decode cX5_text 4 = .ok (.bipush 6, 2) := by decide +kernel
theorem dX5_text_6 : decode cX5_text 6 = .ok (.if_icmp .ne 6, 3) := by decide +kernel
theorem dX5_text_9 : decode cX5_text 9 = .ok (.bipush (-4), 2) := by decide +kernel
theorem dX5_text_11 : decode cX5_text 11 = .ok (.ireturn, 1) := by decide +kernel
theorem dX5_text_12 : decode cX5_text 12 = .ok (.iconst 0, 1) := by decide +kernel
theorem dX5_text_13 : decode cX5_text 13 = .ok (.istore_n 1, 1) := by decide +kernel
theorem dX5_text_14 : decode cX5_text 14 = .ok (.iload_n 1, 1) := by decide +kernel
theorem dX5_text_15 : decode cX5_text 15 = .ok (.aload_n 0, 1) := by decide +kernel
theorem dX5_text_16 : decode cX5_text 16 = .ok (.getfield 138, 3) := by decide +kernel
theorem dX5_text_19 : decode cX5_text 19 = .ok (.if_icmp .ge 30, 3) := by decide +kernel
theorem dX5_text_22 : decode cX5_text 22 = .ok (.aload_n 0, 1) := by decide +kernel
theorem dX5_text_23 : decode cX5_text 23 = .ok (.getfield 13, 3) := by decide +kernel
theorem dX5_text_26 : decode cX5_text 26 = .ok (.sipush 160, 3) := by decide +kernel
theorem dX5_text_29 : decode cX5_text 29 = .ok (.aload_n 0, 1) := by decide +kernel
theorem dX5_text_30 : decode cX5_text 30 = .ok (.getfield 73, 3) := by decide +kernel
theorem dX5_text_33 : decode cX5_text 33 = .ok (.imul, 1) := by decide +kernel
theorem dX5_text_34 : decode cX5_text 34 = .ok (.iload_n 1, 1) := by decide +kernel
theorem dX5_text_35 : decode cX5_text 35 = .ok (.iadd, 1) := by decide +kernel
theorem dX5_text_36 : decode cX5_text 36 = .ok (.aload_n 0, 1) := by decide +kernel
theorem dX5_text_37 : decode cX5_text 37 = .ok (.getfield 20, 3) := by decide +kernel
theorem dX5_text_40 : decode cX5_text 40 = .ok (.iload_n 1, 1) := by decide +kernel
theorem dX5_text_41 : decode cX5_text 41 = .ok (.iaload, 1) := by decide +kernel
theorem dX5_text_42 : decode cX5_text 42 = .ok (.iastore, 1) := by decide +kernel
theorem dX5_text_43 : decode cX5_text 43 = .ok (.iinc 1 1, 3) := by decide +kernel
theorem dX5_text_46 : decode cX5_text 46 = .ok (.goto (-32), 3) := by decide +kernel
theorem dX5_text_49 : decode cX5_text 49 = .ok (.aload_n 0, 1) := by decide +kernel
theorem dX5_text_50 : decode cX5_text 50 = .ok (.getfield 17, 3) := by decide +kernel
theorem dX5_text_53 : decode cX5_text 53 = .ok (.aload_n 0, 1) := by decide +kernel
theorem dX5_text_54 : decode cX5_text 54 = .ok (.getfield 73, 3) := by decide +kernel
theorem dX5_text_57 : decode cX5_text 57 = .ok (.aload_n 0, 1) := by decide +kernel
theorem dX5_text_58 : decode cX5_text 58 = .ok (.getfield 138, 3) := by decide +kernel
theorem dX5_text_61 : decode cX5_text 61 = .ok (.iastore, 1) := by decide +kernel
theorem dX5_text_62 : decode cX5_text 62 = .ok (.aload_n 0, 1) := by decide +kernel
theorem dX5_text_63 : decode cX5_text 63 = .ok (.iconst 0, 1) := by decide +kernel
theorem dX5_text_64 : decode cX5_text 64 = .ok (.putfield 138, 3) := by decide +kernel
theorem dX5_text_67 : decode cX5_text 67 = .ok (.aload_n 0, 1) := by decide +kernel
theorem dX5_text_68 : decode cX5_text 68 = .ok (.aload_n 0, 1) := by decide +kernel
theorem dX5_text_69 : decode cX5_text 69 = .ok (.getfield 73, 3) := by decide +kernel
theorem dX5_text_72 : decode cX5_text 72 = .ok (.iconst 0, 1) := by decide +kernel
theorem dX5_text_73 : decode cX5_text 73 = .ok (.invokevirtual 249, 3) := by decide +kernel
theorem dX5_text_76 : decode cX5_text 76 = .ok (.istore_n 1, 1) := by decide +kernel
theorem dX5_text_77 : decode cX5_text 77 = .ok (.aload_n 0, 1) := by decide +kernel
theorem dX5_text_78 : decode cX5_text 78 = .ok (.getfield 171, 3) := by decide +kernel
theorem dX5_text_81 : decode cX5_text 81 = .ok (.ifCond .eq 11, 3) := by decide +kernel
theorem dX5_text_84 : decode cX5_text 84 = .ok (.bipush (-100), 2) := by decide +kernel
theorem dX5_text_86 : decode cX5_text 86 = .ok (.aload_n 0, 1) := by decide +kernel
theorem dX5_text_87 : decode cX5_text 87 = .ok (.getfield 175, 3) := by decide +kernel
theorem dX5_text_90 : decode cX5_text 90 = .ok (.isub, 1) := by decide +kernel
theorem dX5_text_91 : decode cX5_text 91 = .ok (.ireturn, 1) := by decide +kernel
theorem dX5_text_92 : decode cX5_text 92 = .ok (.aload_n 0, 1) := by decide +kernel
theorem dX5_text_93 : decode cX5_text 93 = .ok (.dup, 1) := by decide +kernel
theorem dX5_text_94 : decode cX5_text 94 = .ok (.getfield 73, 3) := by decide +kernel
theorem dX5_text_97 : decode cX5_text 97 = .ok (.iconst 1, 1) := by decide +kernel
theorem dX5_text_98 : decode cX5_text 98 = .ok (.iadd, 1) := by decide +kernel
theorem dX5_text_99 : decode cX5_text 99 = .ok (.putfield 73, 3) := by decide +kernel
theorem dX5_text_102 : decode cX5_text 102 = .ok (.aload_n 0, 1) := by decide +kernel
theorem dX5_text_103 : decode cX5_text 103 = .ok (.getfield 73, 3) := by decide +kernel
theorem dX5_text_106 : decode cX5_text 106 = .ok (.iconst 1, 1) := by decide +kernel
theorem dX5_text_107 : decode cX5_text 107 = .ok (.isub, 1) := by decide +kernel
theorem dX5_text_108 : decode cX5_text 108 = .ok (.ireturn, 1) := by decide +kernel
abbrev cX5_force : ByteArray := prog_7_method_33_code
abbrev mX5_force : MethodName := { cls := "KinInTheHeapModel", name := "force", desc := "(I)I" }
theorem mwX5_force : MWV mX5_force (.code mX5_force cX5_force 3 (some .int)) "KinInTheHeapModel" 1 := ⟨w1231, w1229, w1230, w103, w103, by decide +kernel⟩
theorem dX5_force_0 : decode cX5_force 0 = .ok (.iload_n 1, 1) := by decide +kernel
theorem dX5_force_1 : decode cX5_force 1 = .ok (.i2l, 1) := by decide +kernel
theorem dX5_force_2 : decode cX5_force 2 = .ok (.lconst 0, 1) := by decide +kernel
theorem dX5_force_3 : decode cX5_force 3 = .ok (.aload_n 0, 1) := by decide +kernel
theorem dX5_force_4 : decode cX5_force 4 = .ok (.getfield 73, 3) := by decide +kernel
theorem dX5_force_7 : decode cX5_force 7 = .ok (.iconst 1, 1) := by decide +kernel
theorem dX5_force_8 : decode cX5_force 8 = .ok (.isub, 1) := by decide +kernel
theorem dX5_force_9 : decode cX5_force 9 = .ok (.i2l, 1) := by decide +kernel
theorem dX5_force_10 : decode cX5_force 10 = .ok (.invokestatic 79, 3) := by decide +kernel
theorem dX5_force_13 : decode cX5_force 13 = .ok (.ifCond .ne 6, 3) := by decide +kernel
theorem dX5_force_16 : decode cX5_force 16 = .ok (.bipush (-2), 2) := by decide +kernel
theorem dX5_force_18 : decode cX5_force 18 = .ok (.ireturn, 1) := by decide +kernel
theorem dX5_force_19 : decode cX5_force 19 = .ok (.aload_n 0, 1) := by decide +kernel
theorem dX5_force_20 : decode cX5_force 20 = .ok (.getfield 115, 3) := by decide +kernel
theorem dX5_force_23 : decode cX5_force 23 = .ok (.istore_n 2, 1) := by decide +kernel
theorem dX5_force_24 : decode cX5_force 24 = .ok (.aload_n 0, 1) := by decide +kernel
theorem dX5_force_25 : decode cX5_force 25 = .ok (.iload_n 1, 1) := by decide +kernel
theorem dX5_force_26 : decode cX5_force 26 = .ok (.putfield 115, 3) := by decide +kernel
theorem dX5_force_29 : decode cX5_force 29 = .ok (.iload_n 2, 1) := by decide +kernel
theorem dX5_force_30 : decode cX5_force 30 = .ok (.ireturn, 1) := by decide +kernel
abbrev cX5_bitsOf : ByteArray := prog_7_method_34_code
abbrev mX5_bitsOf : MethodName := { cls := "KinInTheHeapModel", name := "bitsOf", desc := "(I)I" }
theorem mwX5_bitsOf : MWS mX5_bitsOf (.code mX5_bitsOf cX5_bitsOf 3 (some .int)) 1 := ⟨w1122, w1121, w103, by decide +kernel⟩
theorem dX5_bitsOf_0 : decode cX5_bitsOf 0 = .ok (.iconst 0, 1) := by decide +kernel
theorem dX5_bitsOf_1 : decode cX5_bitsOf 1 = .ok (.istore_n 1, 1) := by decide +kernel
theorem dX5_bitsOf_2 : decode cX5_bitsOf 2 = .ok (.iload_n 0, 1) := by decide +kernel
theorem dX5_bitsOf_3 : decode cX5_bitsOf 3 = .ok (.istore_n 2, 1) := by decide +kernel
theorem dX5_bitsOf_4 : decode cX5_bitsOf 4 = .ok (.iload_n 2, 1) := by decide +kernel
theorem dX5_bitsOf_5 : decode cX5_bitsOf 5 = .ok (.ifCond .eq 15, 3) := by decide +kernel
theorem dX5_bitsOf_8 : decode cX5_bitsOf 8 = .ok (.iinc 1 1, 3) := by decide +kernel
theorem dX5_bitsOf_11 : decode cX5_bitsOf 11 = .ok (.iload_n 2, 1) := by decide +kernel
theorem dX5_bitsOf_12 : decode cX5_bitsOf 12 = .ok (.iload_n 2, 1) := by decide +kernel
theorem dX5_bitsOf_13 : decode cX5_bitsOf 13 = .ok (.iconst 1, 1) := by decide +kernel
theorem dX5_bitsOf_14 : decode cX5_bitsOf 14 = .ok (.isub, 1) := by decide +kernel
theorem dX5_bitsOf_15 : decode cX5_bitsOf 15 = .ok (.iand, 1) := by decide +kernel
theorem dX5_bitsOf_16 : decode cX5_bitsOf 16 = .ok (.istore_n 2, 1) := by decide +kernel
theorem dX5_bitsOf_17 : decode cX5_bitsOf 17 = .ok (.goto (-13), 3) := by decide +kernel
theorem dX5_bitsOf_20 : decode cX5_bitsOf 20 = .ok (.iload_n 1, 1) := by decide +kernel
theorem dX5_bitsOf_21 : decode cX5_bitsOf 21 = .ok (.ireturn, 1) := by decide +kernel
abbrev cX5_kinOf : ByteArray := prog_7_method_35_code
abbrev mX5_kinOf : MethodName := { cls := "KinInTheHeapModel", name := "kinOf", desc := "(I)I" }
theorem mwX5_kinOf : MWV mX5_kinOf (.code mX5_kinOf cX5_kinOf 2 (some .int)) "KinInTheHeapModel" 1 := ⟨w1119, w1118, w53, w103, w103, by decide +kernel⟩
theorem dX5_kinOf_0 : decode cX5_kinOf 0 = .ok (.aload_n 0, 1) := by decide +kernel
theorem dX5_kinOf_1 : decode cX5_kinOf 1 = .ok (.aload_n 0, 1) := by decide +kernel
theorem dX5_kinOf_2 : decode cX5_kinOf 2 = .ok (.getfield 35, 3) := by decide +kernel
theorem dX5_kinOf_5 : decode cX5_kinOf 5 = .ok (.iload_n 1, 1) := by decide +kernel
theorem dX5_kinOf_6 : decode cX5_kinOf 6 = .ok (.iaload, 1) := by decide +kernel
theorem dX5_kinOf_7 : decode cX5_kinOf 7 = .ok (.invokevirtual 124, 3) := by decide +kernel
theorem dX5_kinOf_10 : decode cX5_kinOf 10 = .ok (.invokestatic 252, 3) := by decide +kernel
theorem dX5_kinOf_13 : decode cX5_kinOf 13 = .ok (.ireturn, 1) := by decide +kernel
abbrev cX5_says : ByteArray := prog_7_method_36_code
abbrev mX5_says : MethodName := { cls := "KinInTheHeapModel", name := "says", desc := "(II)I" }
theorem mwX5_says : MWV mX5_says (.code mX5_says cX5_says 3 (some .int)) "KinInTheHeapModel" 2 := ⟨w1126, w1125, w54, w103, w103, by decide +kernel⟩
theorem dX5_says_0 : decode cX5_says 0 = .ok (.aload_n 0, 1) := by decide +kernel
theorem dX5_says_1 : decode cX5_says 1 = .ok (.aload_n 0, 1) := by decide +kernel
theorem dX5_says_2 : decode cX5_says 2 = .ok (.getfield 23, 3) := by decide +kernel
theorem dX5_says_5 : decode cX5_says 5 = .ok (.putfield 194, 3) := by decide +kernel
theorem dX5_says_8 : decode cX5_says 8 = .ok (.aload_n 0, 1) := by decide +kernel
theorem dX5_says_9 : decode cX5_says 9 = .ok (.aload_n 0, 1) := by decide +kernel
theorem dX5_says_10 : decode cX5_says 10 = .ok (.getfield 32, 3) := by decide +kernel
theorem dX5_says_13 : decode cX5_says 13 = .ok (.iload_n 2, 1) := by decide +kernel
theorem dX5_says_14 : decode cX5_says 14 = .ok (.iaload, 1) := by decide +kernel
theorem dX5_says_15 : decode cX5_says 15 = .ok (.putfield 197, 3) := by decide +kernel
theorem dX5_says_18 : decode cX5_says 18 = .ok (.aload_n 0, 1) := by decide +kernel
theorem dX5_says_19 : decode cX5_says 19 = .ok (.aload_n 0, 1) := by decide +kernel
theorem dX5_says_20 : decode cX5_says 20 = .ok (.getfield 35, 3) := by decide +kernel
theorem dX5_says_23 : decode cX5_says 23 = .ok (.iload_n 2, 1) := by decide +kernel
theorem dX5_says_24 : decode cX5_says 24 = .ok (.iaload, 1) := by decide +kernel
theorem dX5_says_25 : decode cX5_says 25 = .ok (.bipush 6, 2) := by decide +kernel
theorem dX5_says_27 : decode cX5_says 27 = .ok (.idiv, 1) := by decide +kernel
theorem dX5_says_28 : decode cX5_says 28 = .ok (.putfield 200, 3) := by decide +kernel
theorem dX5_says_31 : decode cX5_says 31 = .ok (.aload_n 0, 1) := by decide +kernel
theorem dX5_says_32 : decode cX5_says 32 = .ok (.aload_n 0, 1) := by decide +kernel
theorem dX5_says_33 : decode cX5_says 33 = .ok (.getfield 35, 3) := by decide +kernel
theorem dX5_says_36 : decode cX5_says 36 = .ok (.iload_n 2, 1) := by decide +kernel
theorem dX5_says_37 : decode cX5_says 37 = .ok (.iaload, 1) := by decide +kernel
theorem dX5_says_38 : decode cX5_says 38 = .ok (.bipush 6, 2) := by decide +kernel
theorem dX5_says_40 : decode cX5_says 40 = .ok (.irem, 1) := by decide +kernel
theorem dX5_says_41 : decode cX5_says 41 = .ok (.putfield 203, 3) := by decide +kernel
theorem dX5_says_44 : decode cX5_says 44 = .ok (.aload_n 0, 1) := by decide +kernel
theorem dX5_says_45 : decode cX5_says 45 = .ok (.aload_n 0, 1) := by decide +kernel
theorem dX5_says_46 : decode cX5_says 46 = .ok (.iload_n 2, 1) := by decide +kernel
theorem dX5_says_47 : decode cX5_says 47 = .ok (.invokevirtual 255, 3) := by decide +kernel
theorem dX5_says_50 : decode cX5_says 50 = .ok (.putfield 206, 3) := by decide +kernel
theorem dX5_says_53 : decode cX5_says 53 = .ok (.aload_n 0, 1) := by decide +kernel
theorem dX5_says_54 : decode cX5_says 54 = .ok (.aload_n 0, 1) := by decide +kernel
theorem dX5_says_55 : decode cX5_says 55 = .ok (.getfield 112, 3) := by decide +kernel
theorem dX5_says_58 : decode cX5_says 58 = .ok (.putfield 209, 3) := by decide +kernel
theorem dX5_says_61 : decode cX5_says 61 = .ok (.aload_n 0, 1) := by decide +kernel
theorem dX5_says_62 : decode cX5_says 62 = .ok (.aload_n 0, 1) := by decide +kernel
theorem dX5_says_63 : decode cX5_says 63 = .ok (.getfield 115, 3) := by decide +kernel
theorem dX5_says_66 : decode cX5_says 66 = .ok (.iload_n 1, 1) := by decide +kernel
theorem dX5_says_67 : decode cX5_says 67 = .ok (.invokevirtual 249, 3) := by decide +kernel
theorem dX5_says_70 : decode cX5_says 70 = .ok (.ireturn, 1) := by decide +kernel
abbrev cX5_goesOf : ByteArray := prog_7_method_37_code
abbrev mX5_goesOf : MethodName := { cls := "KinInTheHeapModel", name := "goesOf", desc := "(I)I" }
theorem mwX5_goesOf : MWV mX5_goesOf (.code mX5_goesOf cX5_goesOf 4 (some .int)) "KinInTheHeapModel" 1 := ⟨w1115, w1114, w52, w103, w103, by decide +kernel⟩
theorem dX5_goesOf_0 : decode cX5_goesOf 0 = .ok (.aload_n 0, 1) := by decide +kernel
theorem dX5_goesOf_1 : decode cX5_goesOf 1 = .ok (.getfield 29, 3) := by decide +kernel
theorem dX5_goesOf_4 : decode cX5_goesOf 4 = .ok (.iload_n 1, 1) := by decide +kernel
theorem dX5_goesOf_5 : decode cX5_goesOf 5 = .ok (.iaload, 1) := by decide +kernel
theorem dX5_goesOf_6 : decode cX5_goesOf 6 = .ok (.istore_n 2, 1) := by decide +kernel
theorem dX5_goesOf_7 : decode cX5_goesOf 7 = .ok (.iload_n 2, 1) := by decide +kernel
theorem dX5_goesOf_8 : decode cX5_goesOf 8 = .ok (.iconst 5, 1) := by decide +kernel
theorem dX5_goesOf_9 : decode cX5_goesOf 9 = .ok (.if_icmp .ne 22, 3) := by decide +kernel
theorem dX5_goesOf_12 : decode cX5_goesOf 12 = .ok (.aload_n 0, 1) := by decide +kernel
theorem dX5_goesOf_13 : decode cX5_goesOf 13 = .ok (.getfield 23, 3) := by decide +kernel
theorem dX5_goesOf_16 : decode cX5_goesOf 16 = .ok (.iconst 5, 1) := by decide +kernel
theorem dX5_goesOf_17 : decode cX5_goesOf 17 = .ok (.if_icmp .le 12, 3) := by decide +kernel
theorem dX5_goesOf_20 : decode cX5_goesOf 20 = .ok (.aload_n 0, 1) := by decide +kernel
theorem dX5_goesOf_21 : decode cX5_goesOf 21 = .ok (.getfield 32, 3) := by decide +kernel
theorem dX5_goesOf_24 : decode cX5_goesOf 24 = .ok (.iload_n 1, 1) := by decide +kernel
theorem dX5_goesOf_25 : decode cX5_goesOf 25 = .ok (.iaload, 1) := by decide +kernel
theorem dX5_goesOf_26 : decode cX5_goesOf 26 = .ok (.goto 4, 3) := by decide +kernel
theorem dX5_goesOf_29 : decode cX5_goesOf 29 = .ok (.iconst 0, 1) := by decide +kernel
theorem dX5_goesOf_30 : decode cX5_goesOf 30 = .ok (.ireturn, 1) := by decide +kernel
theorem dX5_goesOf_31 : decode cX5_goesOf 31 = .ok (.iload_n 2, 1) := by decide +kernel
theorem dX5_goesOf_32 : decode cX5_goesOf 32 = .ok (.iconst 3, 1) := by decide +kernel
theorem dX5_goesOf_33 : decode cX5_goesOf 33 = .ok (.if_icmp .ne 14, 3) := by decide +kernel
theorem dX5_goesOf_36 : decode cX5_goesOf 36 = .ok (.aload_n 0, 1) := by decide +kernel
theorem dX5_goesOf_37 : decode cX5_goesOf 37 = .ok (.iload_n 1, 1) := by decide +kernel
theorem dX5_goesOf_38 : decode cX5_goesOf 38 = .ok (.invokevirtual 255, 3) := by decide +kernel
theorem dX5_goesOf_41 : decode cX5_goesOf 41 = .ok (.iconst 1, 1) := by decide +kernel
theorem dX5_goesOf_42 : decode cX5_goesOf 42 = .ok (.if_icmp .ne 5, 3) := by decide +kernel
theorem dX5_goesOf_45 : decode cX5_goesOf 45 = .ok (.iconst 0, 1) := by decide +kernel
theorem dX5_goesOf_46 : decode cX5_goesOf 46 = .ok (.ireturn, 1) := by decide +kernel
theorem dX5_goesOf_47 : decode cX5_goesOf 47 = .ok (.aload_n 0, 1) := by decide +kernel
theorem dX5_goesOf_48 : decode cX5_goesOf 48 = .ok (.iconst 0, 1) := by decide +kernel
theorem dX5_goesOf_49 : decode cX5_goesOf 49 = .ok (.iload_n 1, 1) := by decide +kernel
theorem dX5_goesOf_50 : decode cX5_goesOf 50 = .ok (.invokevirtual 258, 3) := by decide +kernel
theorem dX5_goesOf_53 : decode cX5_goesOf 53 = .ok (.iconst 0, 1) := by decide +kernel
theorem dX5_goesOf_54 : decode cX5_goesOf 54 = .ok (.bipush 9, 2) := by decide +kernel
theorem dX5_goesOf_56 : decode cX5_goesOf 56 = .ok (.invokestatic 261, 3) := by decide +kernel
theorem dX5_goesOf_59 : decode cX5_goesOf 59 = .ok (.istore_n 3, 1) := by decide +kernel
theorem dX5_goesOf_60 : decode cX5_goesOf 60 = .ok (.iload_n 2, 1) := by decide +kernel
theorem dX5_goesOf_61 : decode cX5_goesOf 61 = .ok (.iconst 1, 1) := by decide +kernel
theorem dX5_goesOf_62 : decode cX5_goesOf 62 = .ok (.if_icmp .eq 8, 3) := by decide +kernel
theorem dX5_goesOf_65 : decode cX5_goesOf 65 = .ok (.iload_n 2, 1) := by decide +kernel
theorem dX5_goesOf_66 : decode cX5_goesOf 66 = .ok (.iconst 3, 1) := by decide +kernel
theorem dX5_goesOf_67 : decode cX5_goesOf 67 = .ok (.if_icmp .ne 9, 3) := by decide +kernel
theorem dX5_goesOf_70 : decode cX5_goesOf 70 = .ok (.iload_n 3, 1) := by decide +kernel
theorem dX5_goesOf_71 : decode cX5_goesOf 71 = .ok (.iconst 2, 1) := by decide +kernel
theorem dX5_goesOf_72 : decode cX5_goesOf 72 = .ok (.idiv, 1) := by decide +kernel
theorem dX5_goesOf_73 : decode cX5_goesOf 73 = .ok (.goto 28, 3) := by decide +kernel
theorem dX5_goesOf_76 : decode cX5_goesOf 76 = .ok (.iload_n 2, 1) := by decide +kernel
theorem dX5_goesOf_77 : decode cX5_goesOf 77 = .ok (.iconst 2, 1) := by decide +kernel
theorem dX5_goesOf_78 : decode cX5_goesOf 78 = .ok (.if_icmp .ne 9, 3) := by decide +kernel
theorem dX5_goesOf_81 : decode cX5_goesOf 81 = .ok (.iload_n 3, 1) := by decide +kernel
theorem dX5_goesOf_82 : decode cX5_goesOf 82 = .ok (.iconst 1, 1) := by decide +kernel
theorem dX5_goesOf_83 : decode cX5_goesOf 83 = .ok (.iadd, 1) := by decide +kernel
theorem dX5_goesOf_84 : decode cX5_goesOf 84 = .ok (.goto 17, 3) := by decide +kernel
theorem dX5_goesOf_87 : decode cX5_goesOf 87 = .ok (.iload_n 2, 1) := by decide +kernel
theorem dX5_goesOf_88 : decode cX5_goesOf 88 = .ok (.iconst 4, 1) := by decide +kernel
theorem dX5_goesOf_89 : decode cX5_goesOf 89 = .ok (.if_icmp .ne 11, 3) := by decide +kernel
theorem dX5_goesOf_92 : decode cX5_goesOf 92 = .ok (.iconst 2, 1) := by decide +kernel
theorem dX5_goesOf_93 : decode cX5_goesOf 93 = .ok (.iload_n 3, 1) := by decide +kernel
theorem dX5_goesOf_94 : decode cX5_goesOf 94 = .ok (.iconst 1, 1) := by decide +kernel
theorem dX5_goesOf_95 : decode cX5_goesOf 95 = .ok (.iadd, 1) := by decide +kernel
theorem dX5_goesOf_96 : decode cX5_goesOf 96 = .ok (.imul, 1) := by decide +kernel
theorem dX5_goesOf_97 : decode cX5_goesOf 97 = .ok (.goto 4, 3) := by decide +kernel
theorem dX5_goesOf_100 : decode cX5_goesOf 100 = .ok (.iload_n 3, 1) := by decide +kernel
theorem dX5_goesOf_101 : decode cX5_goesOf 101 = .ok (.iconst 0, 1) := by decide +kernel
theorem dX5_goesOf_102 : decode cX5_goesOf 102 = .ok (.bipush 9, 2) := by decide +kernel
theorem dX5_goesOf_104 : decode cX5_goesOf 104 = .ok (.invokestatic 261, 3) := by decide +kernel
theorem dX5_goesOf_107 : decode cX5_goesOf 107 = .ok (.ireturn, 1) := by decide +kernel
abbrev cX5_isLoose : ByteArray := prog_7_method_38_code
abbrev mX5_isLoose : MethodName := { cls := "KinInTheHeapModel", name := "isLoose", desc := "(I)Z" }
theorem mwX5_isLoose : MWV mX5_isLoose (.code mX5_isLoose cX5_isLoose 4 (some .boolean)) "KinInTheHeapModel" 1 := ⟨w1203, w1202, w71, w103, w103, by decide +kernel⟩
theorem dX5_isLoose_0 : decode cX5_isLoose 0 = .ok (.aload_n 0, 1) := by decide +kernel
theorem dX5_isLoose_1 : decode cX5_isLoose 1 = .ok (.getfield 29, 3) := by decide +kernel
theorem dX5_isLoose_4 : decode cX5_isLoose 4 = .ok (.iload_n 1, 1) := by decide +kernel
theorem dX5_isLoose_5 : decode cX5_isLoose 5 = .ok (.iaload, 1) := by decide +kernel
theorem dX5_isLoose_6 : decode cX5_isLoose 6 = .ok (.istore_n 2, 1) := by decide +kernel
theorem dX5_isLoose_7 : decode cX5_isLoose 7 = .ok (.iload_n 2, 1) := by decide +kernel
theorem dX5_isLoose_8 : decode cX5_isLoose 8 = .ok (.iconst 1, 1) := by decide +kernel
theorem dX5_isLoose_9 : decode cX5_isLoose 9 = .ok (.if_icmp .eq 8, 3) := by decide +kernel
theorem dX5_isLoose_12 : decode cX5_isLoose 12 = .ok (.iload_n 2, 1) := by decide +kernel
theorem dX5_isLoose_13 : decode cX5_isLoose 13 = .ok (.iconst 2, 1) := by decide +kernel
theorem dX5_isLoose_14 : decode cX5_isLoose 14 = .ok (.if_icmp .ne 14, 3) := by decide +kernel
theorem dX5_isLoose_17 : decode cX5_isLoose 17 = .ok (.iload_n 2, 1) := by decide +kernel
theorem dX5_isLoose_18 : decode cX5_isLoose 18 = .ok (.iconst 2, 1) := by decide +kernel
theorem dX5_isLoose_19 : decode cX5_isLoose 19 = .ok (.if_icmp .ne 7, 3) := by decide +kernel
theorem dX5_isLoose_22 : decode cX5_isLoose 22 = .ok (.iconst 1, 1) := by decide +kernel
theorem dX5_isLoose_23 : decode cX5_isLoose 23 = .ok (.goto 4, 3) := by decide +kernel
theorem dX5_isLoose_26 : decode cX5_isLoose 26 = .ok (.iconst 0, 1) := by decide +kernel
theorem dX5_isLoose_27 : decode cX5_isLoose 27 = .ok (.ireturn, 1) := by decide +kernel
theorem dX5_isLoose_28 : decode cX5_isLoose 28 = .ok (.iload_n 2, 1) := by decide +kernel
theorem dX5_isLoose_29 : decode cX5_isLoose 29 = .ok (.iconst 3, 1) := by decide +kernel
theorem dX5_isLoose_30 : decode cX5_isLoose 30 = .ok (.if_icmp .eq 8, 3) := by decide +kernel
theorem dX5_isLoose_33 : decode cX5_isLoose 33 = .ok (.iload_n 2, 1) := by decide +kernel
theorem dX5_isLoose_34 : decode cX5_isLoose 34 = .ok (.iconst 4, 1) := by decide +kernel
theorem dX5_isLoose_35 : decode cX5_isLoose 35 = .ok (.if_icmp .ne 40, 3) := by decide +kernel
theorem dX5_isLoose_38 : decode cX5_isLoose 38 = .ok (.iload_n 2, 1) := by decide +kernel
theorem dX5_isLoose_39 : decode cX5_isLoose 39 = .ok (.iconst 3, 1) := by decide +kernel
theorem dX5_isLoose_40 : decode cX5_isLoose 40 = .ok (.if_icmp .ne 20, 3) := by decide +kernel
theorem dX5_isLoose_43 : decode cX5_isLoose 43 = .ok (.aload_n 0, 1) := by decide +kernel
theorem dX5_isLoose_44 : decode cX5_isLoose 44 = .ok (.getfield 23, 3) := by decide +kernel
theorem dX5_isLoose_47 : decode cX5_isLoose 47 = .ok (.bipush 9, 2) := by decide +kernel
theorem dX5_isLoose_49 : decode cX5_isLoose 49 = .ok (.if_icmp .ne 7, 3) := by decide +kernel
theorem dX5_isLoose_52 : decode cX5_isLoose 52 = .ok (.iconst 1, 1) := by decide +kernel
theorem dX5_isLoose_53 : decode cX5_isLoose 53 = .ok (.goto 21, 3) := by decide +kernel
theorem dX5_isLoose_56 : decode cX5_isLoose 56 = .ok (.iconst 0, 1) := by decide +kernel
theorem dX5_isLoose_57 : decode cX5_isLoose 57 = .ok (.goto 17, 3) := by decide +kernel
theorem dX5_isLoose_60 : decode cX5_isLoose 60 = .ok (.aload_n 0, 1) := by decide +kernel
theorem dX5_isLoose_61 : decode cX5_isLoose 61 = .ok (.getfield 112, 3) := by decide +kernel
theorem dX5_isLoose_64 : decode cX5_isLoose 64 = .ok (.iconst 2, 1) := by decide +kernel
theorem dX5_isLoose_65 : decode cX5_isLoose 65 = .ok (.irem, 1) := by decide +kernel
theorem dX5_isLoose_66 : decode cX5_isLoose 66 = .ok (.ifCond .ne 7, 3) := by decide +kernel
theorem dX5_isLoose_69 : decode cX5_isLoose 69 = .ok (.iconst 1, 1) := by decide +kernel
theorem dX5_isLoose_70 : decode cX5_isLoose 70 = .ok (.goto 4, 3) := by decide +kernel
theorem dX5_isLoose_73 : decode cX5_isLoose 73 = .ok (.iconst 0, 1) := by decide +kernel
theorem dX5_isLoose_74 : decode cX5_isLoose 74 = .ok (.ireturn, 1) := by decide +kernel
theorem dX5_isLoose_75 : decode cX5_isLoose 75 = .ok (.aload_n 0, 1) := by decide +kernel
theorem dX5_isLoose_76 : decode cX5_isLoose 76 = .ok (.iconst 1, 1) := by decide +kernel
theorem dX5_isLoose_77 : decode cX5_isLoose 77 = .ok (.iload_n 1, 1) := by decide +kernel
theorem dX5_isLoose_78 : decode cX5_isLoose 78 = .ok (.invokevirtual 258, 3) := by decide +kernel
theorem dX5_isLoose_81 : decode cX5_isLoose 81 = .ok (.ifCond .eq 7, 3) := by decide +kernel
theorem dX5_isLoose_84 : decode cX5_isLoose 84 = .ok (.iconst 1, 1) := by decide +kernel
theorem dX5_isLoose_85 : decode cX5_isLoose 85 = .ok (.goto 4, 3) := by decide +kernel
theorem dX5_isLoose_88 : decode cX5_isLoose 88 = .ok (.iconst 0, 1) := by decide +kernel
theorem dX5_isLoose_89 : decode cX5_isLoose 89 = .ok (.istore_n 3, 1) := by decide +kernel
theorem dX5_isLoose_90 : decode cX5_isLoose 90 = .ok (.iload_n 2, 1) := by decide +kernel
theorem dX5_isLoose_91 : decode cX5_isLoose 91 = .ok (.iconst 5, 1) := by decide +kernel
theorem dX5_isLoose_92 : decode cX5_isLoose 92 = .ok (.if_icmp .ne 15, 3) := by decide +kernel
theorem dX5_isLoose_95 : decode cX5_isLoose 95 = .ok (.iload_n 3, 1) := by decide +kernel
theorem dX5_isLoose_96 : decode cX5_isLoose 96 = .ok (.ifCond .ne 7, 3) := by decide +kernel
theorem dX5_isLoose_99 : decode cX5_isLoose 99 = .ok (.iconst 1, 1) := by decide +kernel
theorem dX5_isLoose_100 : decode cX5_isLoose 100 = .ok (.goto 8, 3) := by decide +kernel
theorem dX5_isLoose_103 : decode cX5_isLoose 103 = .ok (.iconst 0, 1) := by decide +kernel
theorem dX5_isLoose_104 : decode cX5_isLoose 104 = .ok (.goto 4, 3) := by decide +kernel
theorem dX5_isLoose_107 : decode cX5_isLoose 107 = .ok (.iload_n 3, 1) := by decide +kernel
theorem dX5_isLoose_108 : decode cX5_isLoose 108 = .ok (.ireturn, 1) := by decide +kernel
abbrev cX5_blownOf : ByteArray := prog_7_method_39_code
abbrev mX5_blownOf : MethodName := { cls := "KinInTheHeapModel", name := "blownOf", desc := "(I)I" }
theorem mwX5_blownOf : MWV mX5_blownOf (.code mX5_blownOf cX5_blownOf 5 (some .int)) "KinInTheHeapModel" 1 := ⟨w1207, w1206, w72, w103, w103, by decide +kernel⟩
theorem dX5_blownOf_0 : decode cX5_blownOf 0 = .ok (.aload_n 0, 1) := by decide +kernel
theorem dX5_blownOf_1 : decode cX5_blownOf 1 = .ok (.getfield 29, 3) := by decide +kernel
theorem dX5_blownOf_4 : decode cX5_blownOf 4 = .ok (.iload_n 1, 1) := by decide +kernel
theorem dX5_blownOf_5 : decode cX5_blownOf 5 = .ok (.iaload, 1) := by decide +kernel
theorem dX5_blownOf_6 : decode cX5_blownOf 6 = .ok (.istore_n 2, 1) := by decide +kernel
theorem dX5_blownOf_7 : decode cX5_blownOf 7 = .ok (.iload_n 2, 1) := by decide +kernel
theorem dX5_blownOf_8 : decode cX5_blownOf 8 = .ok (.iconst 1, 1) := by decide +kernel
theorem dX5_blownOf_9 : decode cX5_blownOf 9 = .ok (.if_icmp .eq 23, 3) := by decide +kernel
theorem dX5_blownOf_12 : decode cX5_blownOf 12 = .ok (.iload_n 2, 1) := by decide +kernel
theorem dX5_blownOf_13 : decode cX5_blownOf 13 = .ok (.iconst 3, 1) := by decide +kernel
theorem dX5_blownOf_14 : decode cX5_blownOf 14 = .ok (.if_icmp .eq 18, 3) := by decide +kernel
theorem dX5_blownOf_17 : decode cX5_blownOf 17 = .ok (.iload_n 2, 1) := by decide +kernel
theorem dX5_blownOf_18 : decode cX5_blownOf 18 = .ok (.iconst 5, 1) := by decide +kernel
theorem dX5_blownOf_19 : decode cX5_blownOf 19 = .ok (.if_icmp .ne 15, 3) := by decide +kernel
theorem dX5_blownOf_22 : decode cX5_blownOf 22 = .ok (.aload_n 0, 1) := by decide +kernel
theorem dX5_blownOf_23 : decode cX5_blownOf 23 = .ok (.getfield 32, 3) := by decide +kernel
theorem dX5_blownOf_26 : decode cX5_blownOf 26 = .ok (.iload_n 1, 1) := by decide +kernel
theorem dX5_blownOf_27 : decode cX5_blownOf 27 = .ok (.iaload, 1) := by decide +kernel
theorem dX5_blownOf_28 : decode cX5_blownOf 28 = .ok (.iconst 5, 1) := by decide +kernel
theorem dX5_blownOf_29 : decode cX5_blownOf 29 = .ok (.if_icmp .ge 5, 3) := by decide +kernel
theorem dX5_blownOf_32 : decode cX5_blownOf 32 = .ok (.iconst 0, 1) := by decide +kernel
theorem dX5_blownOf_33 : decode cX5_blownOf 33 = .ok (.ireturn, 1) := by decide +kernel
theorem dX5_blownOf_34 : decode cX5_blownOf 34 = .ok (.aload_n 0, 1) := by decide +kernel
theorem dX5_blownOf_35 : decode cX5_blownOf 35 = .ok (.iconst 2, 1) := by decide +kernel
theorem dX5_blownOf_36 : decode cX5_blownOf 36 = .ok (.iload_n 1, 1) := by decide +kernel
theorem dX5_blownOf_37 : decode cX5_blownOf 37 = .ok (.invokevirtual 258, 3) := by decide +kernel
theorem dX5_blownOf_40 : decode cX5_blownOf 40 = .ok (.iconst 5, 1) := by decide +kernel
theorem dX5_blownOf_41 : decode cX5_blownOf 41 = .ok (.irem, 1) := by decide +kernel
theorem dX5_blownOf_42 : decode cX5_blownOf 42 = .ok (.istore_n 3, 1) := by decide +kernel
theorem dX5_blownOf_43 : decode cX5_blownOf 43 = .ok (.iload_n 3, 1) := by decide +kernel
theorem dX5_blownOf_44 : decode cX5_blownOf 44 = .ok (.ifCond .ge 9, 3) := by decide +kernel
theorem dX5_blownOf_47 : decode cX5_blownOf 47 = .ok (.iload_n 3, 1) := by decide +kernel
theorem dX5_blownOf_48 : decode cX5_blownOf 48 = .ok (.iconst 5, 1) := by decide +kernel
theorem dX5_blownOf_49 : decode cX5_blownOf 49 = .ok (.iadd, 1) := by decide +kernel
theorem dX5_blownOf_50 : decode cX5_blownOf 50 = .ok (.goto 4, 3) := by decide +kernel
theorem dX5_blownOf_53 : decode cX5_blownOf 53 = .ok (.iload_n 3, 1) := by decide +kernel
theorem dX5_blownOf_54 : decode cX5_blownOf 54 = .ok (.istore 4, 2) := by decide +kernel
theorem dX5_blownOf_56 : decode cX5_blownOf 56 = .ok (.iload_n 2, 1) := by decide +kernel
theorem dX5_blownOf_57 : decode cX5_blownOf 57 = .ok (.iconst 4, 1) := by decide +kernel
theorem dX5_blownOf_58 : decode cX5_blownOf 58 = .ok (.if_icmp .ne 8, 3) := by decide +kernel
theorem dX5_blownOf_61 : decode cX5_blownOf 61 = .ok (.iload 4, 2) := by decide +kernel
theorem dX5_blownOf_63 : decode cX5_blownOf 63 = .ok (.ifCond .ne 8, 3) := by decide +kernel
theorem dX5_blownOf_66 : decode cX5_blownOf 66 = .ok (.iload 4, 2) := by decide +kernel
theorem dX5_blownOf_68 : decode cX5_blownOf 68 = .ok (.goto 22, 3) := by decide +kernel
theorem dX5_blownOf_71 : decode cX5_blownOf 71 = .ok (.iload 4, 2) := by decide +kernel
theorem dX5_blownOf_73 : decode cX5_blownOf 73 = .ok (.iconst 2, 1) := by decide +kernel
theorem dX5_blownOf_74 : decode cX5_blownOf 74 = .ok (.irem, 1) := by decide +kernel
theorem dX5_blownOf_75 : decode cX5_blownOf 75 = .ok (.iconst 1, 1) := by decide +kernel
theorem dX5_blownOf_76 : decode cX5_blownOf 76 = .ok (.if_icmp .ne 10, 3) := by decide +kernel
theorem dX5_blownOf_79 : decode cX5_blownOf 79 = .ok (.iload 4, 2) := by decide +kernel
theorem dX5_blownOf_81 : decode cX5_blownOf 81 = .ok (.iconst 1, 1) := by decide +kernel
theorem dX5_blownOf_82 : decode cX5_blownOf 82 = .ok (.iadd, 1) := by decide +kernel
theorem dX5_blownOf_83 : decode cX5_blownOf 83 = .ok (.goto 7, 3) := by decide +kernel
theorem dX5_blownOf_86 : decode cX5_blownOf 86 = .ok (.iload 4, 2) := by decide +kernel
theorem dX5_blownOf_88 : decode cX5_blownOf 88 = .ok (.iconst 1, 1) := by decide +kernel
theorem dX5_blownOf_89 : decode cX5_blownOf 89 = .ok (.isub, 1) := by decide +kernel
theorem dX5_blownOf_90 : decode cX5_blownOf 90 = .ok (.ireturn, 1) := by decide +kernel
abbrev cX5_beside : ByteArray := prog_7_method_40_code
abbrev mX5_beside : MethodName := { cls := "KinInTheHeapModel", name := "beside", desc := "(II)I" }
theorem mwX5_beside : MWS mX5_beside (.code mX5_beside cX5_beside 4 (some .int)) 2 := ⟨w1254, w1253, w103, by decide +kernel⟩
theorem dX5_beside_0 : decode cX5_beside 0 = .ok (.iload_n 0, 1) := by decide +kernel
theorem dX5_beside_1 : decode cX5_beside 1 = .ok (.bipush 6, 2) := by decide +kernel
theorem dX5_beside_3 : decode cX5_beside 3 = .ok (.irem, 1) := by decide +kernel
theorem dX5_beside_4 : decode cX5_beside 4 = .ok (.iload_n 1, 1) := by decide +kernel
theorem dX5_beside_5 : decode cX5_beside 5 = .ok (.iconst 1, 1) := by decide +kernel
theorem dX5_beside_6 : decode cX5_beside 6 = .ok (.if_icmp .ne 7, 3) := by decide +kernel
theorem dX5_beside_9 : decode cX5_beside 9 = .ok (.iconst 1, 1) := by decide +kernel
theorem dX5_beside_10 : decode cX5_beside 10 = .ok (.goto 13, 3) := by decide +kernel
theorem dX5_beside_13 : decode cX5_beside 13 = .ok (.iload_n 1, 1) := by decide +kernel
theorem dX5_beside_14 : decode cX5_beside 14 = .ok (.iconst 2, 1) := by decide +kernel
theorem dX5_beside_15 : decode cX5_beside 15 = .ok (.if_icmp .ne 7, 3) := by decide +kernel
theorem dX5_beside_18 : decode cX5_beside 18 = .ok (.iconst (-1), 1) := by decide +kernel
theorem dX5_beside_19 : decode cX5_beside 19 = .ok (.goto 4, 3) := by decide +kernel
theorem dX5_beside_22 : decode cX5_beside 22 = .ok (.iconst 0, 1) := by decide +kernel
theorem dX5_beside_23 : decode cX5_beside 23 = .ok (.iadd, 1) := by decide +kernel
theorem dX5_beside_24 : decode cX5_beside 24 = .ok (.istore_n 2, 1) := by decide +kernel
theorem dX5_beside_25 : decode cX5_beside 25 = .ok (.iload_n 0, 1) := by decide +kernel
theorem dX5_beside_26 : decode cX5_beside 26 = .ok (.bipush 6, 2) := by decide +kernel
theorem dX5_beside_28 : decode cX5_beside 28 = .ok (.idiv, 1) := by decide +kernel
theorem dX5_beside_29 : decode cX5_beside 29 = .ok (.iload_n 1, 1) := by decide +kernel
theorem dX5_beside_30 : decode cX5_beside 30 = .ok (.iconst 3, 1) := by decide +kernel
theorem dX5_beside_31 : decode cX5_beside 31 = .ok (.if_icmp .ne 7, 3) := by decide +kernel
theorem dX5_beside_34 : decode cX5_beside 34 = .ok (.iconst 1, 1) := by decide +kernel
theorem dX5_beside_35 : decode cX5_beside 35 = .ok (.goto 13, 3) := by decide +kernel
theorem dX5_beside_38 : decode cX5_beside 38 = .ok (.iload_n 1, 1) := by decide +kernel
theorem dX5_beside_39 : decode cX5_beside 39 = .ok (.iconst 4, 1) := by decide +kernel
theorem dX5_beside_40 : decode cX5_beside 40 = .ok (.if_icmp .ne 7, 3) := by decide +kernel
theorem dX5_beside_43 : decode cX5_beside 43 = .ok (.iconst (-1), 1) := by decide +kernel
theorem dX5_beside_44 : decode cX5_beside 44 = .ok (.goto 4, 3) := by decide +kernel
theorem dX5_beside_47 : decode cX5_beside 47 = .ok (.iconst 0, 1) := by decide +kernel
theorem dX5_beside_48 : decode cX5_beside 48 = .ok (.iadd, 1) := by decide +kernel
theorem dX5_beside_49 : decode cX5_beside 49 = .ok (.istore_n 3, 1) := by decide +kernel
theorem dX5_beside_50 : decode cX5_beside 50 = .ok (.iload_n 2, 1) := by decide +kernel
theorem dX5_beside_51 : decode cX5_beside 51 = .ok (.i2l, 1) := by decide +kernel
theorem dX5_beside_52 : decode cX5_beside 52 = .ok (.lconst 0, 1) := by decide +kernel
theorem dX5_beside_53 : decode cX5_beside 53 = .ok (.ldc2_w 118, 3) := by decide +kernel
theorem dX5_beside_56 : decode cX5_beside 56 = .ok (.invokestatic 79, 3) := by decide +kernel
theorem dX5_beside_59 : decode cX5_beside 59 = .ok (.ifCond .eq 24, 3) := by decide +kernel
theorem dX5_beside_62 : decode cX5_beside 62 = .ok (.iload_n 3, 1) := by decide +kernel
theorem dX5_beside_63 : decode cX5_beside 63 = .ok (.i2l, 1) := by decide +kernel
theorem dX5_beside_64 : decode cX5_beside 64 = .ok (.lconst 0, 1) := by decide +kernel
theorem dX5_beside_65 : decode cX5_beside 65 = .ok (.ldc2_w 118, 3) := by decide +kernel
theorem dX5_beside_68 : decode cX5_beside 68 = .ok (.invokestatic 79, 3) := by decide +kernel
theorem dX5_beside_71 : decode cX5_beside 71 = .ok (.ifCond .eq 12, 3) := by decide +kernel
theorem dX5_beside_74 : decode cX5_beside 74 = .ok (.bipush 6, 2) := by decide +kernel
theorem dX5_beside_76 : decode cX5_beside 76 = .ok (.iload_n 3, 1) := by decide +kernel
theorem dX5_beside_77 : decode cX5_beside 77 = .ok (.imul, 1) := by decide +kernel
theorem dX5_beside_78 : decode cX5_beside 78 = .ok (.iload_n 2, 1) := by decide +kernel
theorem dX5_beside_79 : decode cX5_beside 79 = .ok (.iadd, 1) := by decide +kernel
theorem dX5_beside_80 : decode cX5_beside 80 = .ok (.goto 4, 3) := by decide +kernel
theorem dX5_beside_83 : decode cX5_beside 83 = .ok (.iconst (-1), 1) := by decide +kernel
theorem dX5_beside_84 : decode cX5_beside 84 = .ok (.ireturn, 1) := by decide +kernel
abbrev cX5_isMovable : ByteArray := prog_7_method_41_code
abbrev mX5_isMovable : MethodName := { cls := "KinInTheHeapModel", name := "isMovable", desc := "(I)Z" }
theorem mwX5_isMovable : MWV mX5_isMovable (.code mX5_isMovable cX5_isMovable 2 (some .boolean)) "KinInTheHeapModel" 1 := ⟨w1247, w1246, w75, w103, w103, by decide +kernel⟩
theorem dX5_isMovable_0 : decode cX5_isMovable 0 = .ok (.aload_n 0, 1) := by decide +kernel
theorem dX5_isMovable_1 : decode cX5_isMovable 1 = .ok (.getfield 35, 3) := by decide +kernel
theorem dX5_isMovable_4 : decode cX5_isMovable 4 = .ok (.iload_n 1, 1) := by decide +kernel
theorem dX5_isMovable_5 : decode cX5_isMovable 5 = .ok (.iaload, 1) := by decide +kernel
theorem dX5_isMovable_6 : decode cX5_isMovable 6 = .ok (.iconst (-1), 1) := by decide +kernel
theorem dX5_isMovable_7 : decode cX5_isMovable 7 = .ok (.if_icmp .eq 29, 3) := by decide +kernel
theorem dX5_isMovable_10 : decode cX5_isMovable 10 = .ok (.aload_n 0, 1) := by decide +kernel
theorem dX5_isMovable_11 : decode cX5_isMovable 11 = .ok (.getfield 26, 3) := by decide +kernel
theorem dX5_isMovable_14 : decode cX5_isMovable 14 = .ok (.aload_n 0, 1) := by decide +kernel
theorem dX5_isMovable_15 : decode cX5_isMovable 15 = .ok (.getfield 35, 3) := by decide +kernel
theorem dX5_isMovable_18 : decode cX5_isMovable 18 = .ok (.iload_n 1, 1) := by decide +kernel
theorem dX5_isMovable_19 : decode cX5_isMovable 19 = .ok (.iaload, 1) := by decide +kernel
theorem dX5_isMovable_20 : decode cX5_isMovable 20 = .ok (.iaload, 1) := by decide +kernel
theorem dX5_isMovable_21 : decode cX5_isMovable 21 = .ok (.ifCond .eq 11, 3) := by decide +kernel
theorem dX5_isMovable_24 : decode cX5_isMovable 24 = .ok (.aload_n 0, 1) := by decide +kernel
theorem dX5_isMovable_25 : decode cX5_isMovable 25 = .ok (.iload_n 1, 1) := by decide +kernel
theorem dX5_isMovable_26 : decode cX5_isMovable 26 = .ok (.invokevirtual 130, 3) := by decide +kernel
theorem dX5_isMovable_29 : decode cX5_isMovable 29 = .ok (.ifCond .eq 7, 3) := by decide +kernel
theorem dX5_isMovable_32 : decode cX5_isMovable 32 = .ok (.iconst 1, 1) := by decide +kernel
theorem dX5_isMovable_33 : decode cX5_isMovable 33 = .ok (.goto 4, 3) := by decide +kernel
theorem dX5_isMovable_36 : decode cX5_isMovable 36 = .ok (.iconst 0, 1) := by decide +kernel
theorem dX5_isMovable_37 : decode cX5_isMovable 37 = .ok (.ireturn, 1) := by decide +kernel
abbrev cX5_swept : ByteArray := prog_7_method_42_code
abbrev mX5_swept : MethodName := { cls := "KinInTheHeapModel", name := "swept", desc := "(III)I" }
theorem mwX5_swept : MWV mX5_swept (.code mX5_swept cX5_swept 6 (some .int)) "KinInTheHeapModel" 3 := ⟨w1251, w1250, w76, w103, w103, by decide +kernel⟩
theorem dX5_swept_0 : decode cX5_swept 0 = .ok (.aload_n 0, 1) := by decide +kernel
theorem dX5_swept_1 : decode cX5_swept 1 = .ok (.getfield 35, 3) := by decide +kernel
theorem dX5_swept_4 : decode cX5_swept 4 = .ok (.iload_n 1, 1) := by decide +kernel
theorem dX5_swept_5 : decode cX5_swept 5 = .ok (.iaload, 1) := by decide +kernel
theorem dX5_swept_6 : decode cX5_swept 6 = .ok (.istore 4, 2) := by decide +kernel
theorem dX5_swept_8 : decode cX5_swept 8 = .ok (.iconst 0, 1) := by decide +kernel
theorem dX5_swept_9 : decode cX5_swept 9 = .ok (.istore 5, 2) := by decide +kernel
theorem dX5_swept_11 : decode cX5_swept 11 = .ok (.iload 5, 2) := by decide +kernel
theorem dX5_swept_13 : decode cX5_swept 13 = .ok (.iload_n 3, 1) := by decide +kernel
theorem dX5_swept_14 : decode cX5_swept 14 = .ok (.if_icmp .ge 37, 3) := by decide +kernel
theorem dX5_swept_17 : decode cX5_swept 17 = .ok (.iload 4, 2) := by decide +kernel
theorem dX5_swept_19 : decode cX5_swept 19 = .ok (.iload_n 2, 1) := by decide +kernel
theorem dX5_swept_20 : decode cX5_swept 20 = .ok (.invokestatic 265, 3) := by decide +kernel
theorem dX5_swept_23 : decode cX5_swept 23 = .ok (.istore 4, 2) := by decide +kernel
theorem dX5_swept_25 : decode cX5_swept 25 = .ok (.iload 4, 2) := by decide +kernel
theorem dX5_swept_27 : decode cX5_swept 27 = .ok (.iconst (-1), 1) := by decide +kernel
theorem dX5_swept_28 : decode cX5_swept 28 = .ok (.if_icmp .eq 14, 3) := by decide +kernel
theorem dX5_swept_31 : decode cX5_swept 31 = .ok (.aload_n 0, 1) := by decide +kernel
theorem dX5_swept_32 : decode cX5_swept 32 = .ok (.getfield 26, 3) := by decide +kernel
theorem dX5_swept_35 : decode cX5_swept 35 = .ok (.iload 4, 2) := by decide +kernel
theorem dX5_swept_37 : decode cX5_swept 37 = .ok (.iaload, 1) := by decide +kernel
theorem dX5_swept_38 : decode cX5_swept 38 = .ok (.iconst 1, 1) := by decide +kernel
theorem dX5_swept_39 : decode cX5_swept 39 = .ok (.if_icmp .ne 6, 3) := by decide +kernel
theorem dX5_swept_42 : decode cX5_swept 42 = .ok (.iload 4, 2) := by decide +kernel
theorem dX5_swept_44 : decode cX5_swept 44 = .ok (.ireturn, 1) := by decide +kernel
theorem dX5_swept_45 : decode cX5_swept 45 = .ok (.iinc 5 1, 3) := by decide +kernel
theorem dX5_swept_48 : decode cX5_swept 48 = .ok (.goto (-37), 3) := by decide +kernel
theorem dX5_swept_51 : decode cX5_swept 51 = .ok (.iload 4, 2) := by decide +kernel
theorem dX5_swept_53 : decode cX5_swept 53 = .ok (.ireturn, 1) := by decide +kernel
abbrev cX5_lays1 : ByteArray := prog_7_method_43_code
abbrev mX5_lays1 : MethodName := { cls := "KinInTheHeapModel", name := "lays1", desc := "()I" }
theorem mwX5_lays1 : MWV mX5_lays1 (.code mX5_lays1 cX5_lays1 3 (some .int)) "KinInTheHeapModel" 0 := ⟨w1258, w1257, w77, w103, w103, by decide +kernel⟩
theorem dX5_lays1_0 : decode cX5_lays1 0 = .ok (.iconst 0, 1) := by decide +kernel
theorem dX5_lays1_1 : decode cX5_lays1 1 = .ok (.istore_n 1, 1) := by decide +kernel
theorem dX5_lays1_2 : decode cX5_lays1 2 = .ok (.iconst 0, 1) := by decide +kernel
theorem dX5_lays1_3 : decode cX5_lays1 3 = .ok (.istore_n 2, 1) := by decide +kernel
theorem dX5_lays1_4 : decode cX5_lays1 4 = .ok (.iload_n 2, 1) := by decide +kernel
theorem dX5_lays1_5 : decode cX5_lays1 5 = .ok (.aload_n 0, 1) := by decide +kernel
theorem dX5_lays1_6 : decode cX5_lays1 6 = .ok (.getfield 76, 3) := by decide +kernel
theorem dX5_lays1_9 : decode cX5_lays1 9 = .ok (.if_icmp .ge 49, 3) := by decide +kernel
theorem dX5_lays1_12 : decode cX5_lays1 12 = .ok (.iload_n 1, 1) := by decide +kernel
theorem dX5_lays1_13 : decode cX5_lays1 13 = .ok (.aload_n 0, 1) := by decide +kernel
theorem dX5_lays1_14 : decode cX5_lays1 14 = .ok (.getfield 35, 3) := by decide +kernel
theorem dX5_lays1_17 : decode cX5_lays1 17 = .ok (.iload_n 2, 1) := by decide +kernel
theorem dX5_lays1_18 : decode cX5_lays1 18 = .ok (.iaload, 1) := by decide +kernel
theorem dX5_lays1_19 : decode cX5_lays1 19 = .ok (.iconst (-1), 1) := by decide +kernel
theorem dX5_lays1_20 : decode cX5_lays1 20 = .ok (.if_icmp .eq 17, 3) := by decide +kernel
theorem dX5_lays1_23 : decode cX5_lays1 23 = .ok (.aload_n 0, 1) := by decide +kernel
theorem dX5_lays1_24 : decode cX5_lays1 24 = .ok (.getfield 38, 3) := by decide +kernel
theorem dX5_lays1_27 : decode cX5_lays1 27 = .ok (.iload_n 2, 1) := by decide +kernel
theorem dX5_lays1_28 : decode cX5_lays1 28 = .ok (.iaload, 1) := by decide +kernel
theorem dX5_lays1_29 : decode cX5_lays1 29 = .ok (.iconst (-1), 1) := by decide +kernel
theorem dX5_lays1_30 : decode cX5_lays1 30 = .ok (.if_icmp .ne 7, 3) := by decide +kernel
theorem dX5_lays1_33 : decode cX5_lays1 33 = .ok (.iconst 1, 1) := by decide +kernel
theorem dX5_lays1_34 : decode cX5_lays1 34 = .ok (.goto 4, 3) := by decide +kernel
theorem dX5_lays1_37 : decode cX5_lays1 37 = .ok (.iconst 0, 1) := by decide +kernel
theorem dX5_lays1_38 : decode cX5_lays1 38 = .ok (.iadd, 1) := by decide +kernel
theorem dX5_lays1_39 : decode cX5_lays1 39 = .ok (.istore_n 1, 1) := by decide +kernel
theorem dX5_lays1_40 : decode cX5_lays1 40 = .ok (.aload_n 0, 1) := by decide +kernel
theorem dX5_lays1_41 : decode cX5_lays1 41 = .ok (.getfield 35, 3) := by decide +kernel
theorem dX5_lays1_44 : decode cX5_lays1 44 = .ok (.iload_n 2, 1) := by decide +kernel
theorem dX5_lays1_45 : decode cX5_lays1 45 = .ok (.aload_n 0, 1) := by decide +kernel
theorem dX5_lays1_46 : decode cX5_lays1 46 = .ok (.getfield 38, 3) := by decide +kernel
theorem dX5_lays1_49 : decode cX5_lays1 49 = .ok (.iload_n 2, 1) := by decide +kernel
theorem dX5_lays1_50 : decode cX5_lays1 50 = .ok (.iaload, 1) := by decide +kernel
theorem dX5_lays1_51 : decode cX5_lays1 51 = .ok (.iastore, 1) := by decide +kernel
theorem dX5_lays1_52 : decode cX5_lays1 52 = .ok (.iinc 2 1, 3) := by decide +kernel
theorem dX5_lays1_55 : decode cX5_lays1 55 = .ok (.goto (-51), 3) := by decide +kernel
theorem dX5_lays1_58 : decode cX5_lays1 58 = .ok (.iload_n 1, 1) := by decide +kernel
theorem dX5_lays1_59 : decode cX5_lays1 59 = .ok (.ireturn, 1) := by decide +kernel
abbrev cX5_strokes : ByteArray := prog_7_method_44_code
abbrev mX5_strokes : MethodName := { cls := "KinInTheHeapModel", name := "strokes", desc := "(I)I" }
theorem mwX5_strokes : MWV mX5_strokes (.code mX5_strokes cX5_strokes 6 (some .int)) "KinInTheHeapModel" 1 := ⟨w1243, w1242, w74, w103, w103, by decide +kernel⟩
theorem dX5_strokes_0 : decode cX5_strokes 0 = .ok (.iload_n 1, 1) := by decide +kernel
theorem dX5_strokes_1 : decode cX5_strokes 1 = .ok (.bipush 12, 2) := by decide +kernel
theorem dX5_strokes_3 : decode cX5_strokes 3 = .ok (.if_icmp .ge 7, 3) := by decide +kernel
theorem dX5_strokes_6 : decode cX5_strokes 6 = .ok (.iload_n 1, 1) := by decide +kernel
theorem dX5_strokes_7 : decode cX5_strokes 7 = .ok (.goto 7, 3) := by decide +kernel
theorem dX5_strokes_10 : decode cX5_strokes 10 = .ok (.iload_n 1, 1) := by decide +kernel
theorem dX5_strokes_11 : decode cX5_strokes 11 = .ok (.bipush 12, 2) := by decide +kernel
theorem dX5_strokes_13 : decode cX5_strokes 13 = .ok (.isub, 1) := by decide +kernel
theorem dX5_strokes_14 : decode cX5_strokes 14 = .ok (.iconst 2, 1) := by decide +kernel
theorem dX5_strokes_15 : decode cX5_strokes 15 = .ok (.idiv, 1) := by decide +kernel
theorem dX5_strokes_16 : decode cX5_strokes 16 = .ok (.istore_n 2, 1) := by decide +kernel
theorem dX5_strokes_17 : decode cX5_strokes 17 = .ok (.iload_n 1, 1) := by decide +kernel
theorem dX5_strokes_18 : decode cX5_strokes 18 = .ok (.bipush 12, 2) := by decide +kernel
theorem dX5_strokes_20 : decode cX5_strokes 20 = .ok (.if_icmp .ge 7, 3) := by decide +kernel
theorem dX5_strokes_23 : decode cX5_strokes 23 = .ok (.iconst 1, 1) := by decide +kernel
theorem dX5_strokes_24 : decode cX5_strokes 24 = .ok (.goto 4, 3) := by decide +kernel
theorem dX5_strokes_27 : decode cX5_strokes 27 = .ok (.iconst 3, 1) := by decide +kernel
theorem dX5_strokes_28 : decode cX5_strokes 28 = .ok (.iload_n 1, 1) := by decide +kernel
theorem dX5_strokes_29 : decode cX5_strokes 29 = .ok (.iconst 2, 1) := by decide +kernel
theorem dX5_strokes_30 : decode cX5_strokes 30 = .ok (.irem, 1) := by decide +kernel
theorem dX5_strokes_31 : decode cX5_strokes 31 = .ok (.iadd, 1) := by decide +kernel
theorem dX5_strokes_32 : decode cX5_strokes 32 = .ok (.istore_n 3, 1) := by decide +kernel
theorem dX5_strokes_33 : decode cX5_strokes 33 = .ok (.iconst 0, 1) := by decide +kernel
theorem dX5_strokes_34 : decode cX5_strokes 34 = .ok (.istore 4, 2) := by decide +kernel
theorem dX5_strokes_36 : decode cX5_strokes 36 = .ok (.iload 4, 2) := by decide +kernel
theorem dX5_strokes_38 : decode cX5_strokes 38 = .ok (.aload_n 0, 1) := by decide +kernel
theorem dX5_strokes_39 : decode cX5_strokes 39 = .ok (.getfield 76, 3) := by decide +kernel
theorem dX5_strokes_42 : decode cX5_strokes 42 = .ok (.if_icmp .ge 104, 3) := by decide +kernel
theorem dX5_strokes_45 : decode cX5_strokes 45 = .ok (.aload_n 0, 1) := by decide +kernel
theorem dX5_strokes_46 : decode cX5_strokes 46 = .ok (.getfield 35, 3) := by decide +kernel
theorem dX5_strokes_49 : decode cX5_strokes 49 = .ok (.iload 4, 2) := by decide +kernel
theorem dX5_strokes_51 : decode cX5_strokes 51 = .ok (.iaload, 1) := by decide +kernel
theorem dX5_strokes_52 : decode cX5_strokes 52 = .ok (.iconst (-1), 1) := by decide +kernel
theorem dX5_strokes_53 : decode cX5_strokes 53 = .ok (.if_icmp .eq 40, 3) := by decide +kernel
theorem dX5_strokes_56 : decode cX5_strokes 56 = .ok (.iload_n 1, 1) := by decide +kernel
theorem dX5_strokes_57 : decode cX5_strokes 57 = .ok (.bipush 12, 2) := by decide +kernel
theorem dX5_strokes_59 : decode cX5_strokes 59 = .ok (.if_icmp .ge 16, 3) := by decide +kernel
theorem dX5_strokes_62 : decode cX5_strokes 62 = .ok (.aload_n 0, 1) := by decide +kernel
theorem dX5_strokes_63 : decode cX5_strokes 63 = .ok (.getfield 35, 3) := by decide +kernel
theorem dX5_strokes_66 : decode cX5_strokes 66 = .ok (.iload 4, 2) := by decide +kernel
theorem dX5_strokes_68 : decode cX5_strokes 68 = .ok (.iaload, 1) := by decide +kernel
theorem dX5_strokes_69 : decode cX5_strokes 69 = .ok (.bipush 6, 2) := by decide +kernel
theorem dX5_strokes_71 : decode cX5_strokes 71 = .ok (.idiv, 1) := by decide +kernel
theorem dX5_strokes_72 : decode cX5_strokes 72 = .ok (.goto 13, 3) := by decide +kernel
theorem dX5_strokes_75 : decode cX5_strokes 75 = .ok (.aload_n 0, 1) := by decide +kernel
theorem dX5_strokes_76 : decode cX5_strokes 76 = .ok (.getfield 35, 3) := by decide +kernel
theorem dX5_strokes_79 : decode cX5_strokes 79 = .ok (.iload 4, 2) := by decide +kernel
theorem dX5_strokes_81 : decode cX5_strokes 81 = .ok (.iaload, 1) := by decide +kernel
theorem dX5_strokes_82 : decode cX5_strokes 82 = .ok (.bipush 6, 2) := by decide +kernel
theorem dX5_strokes_84 : decode cX5_strokes 84 = .ok (.irem, 1) := by decide +kernel
theorem dX5_strokes_85 : decode cX5_strokes 85 = .ok (.iload_n 2, 1) := by decide +kernel
theorem dX5_strokes_86 : decode cX5_strokes 86 = .ok (.if_icmp .ne 7, 3) := by decide +kernel
theorem dX5_strokes_89 : decode cX5_strokes 89 = .ok (.iconst 1, 1) := by decide +kernel
theorem dX5_strokes_90 : decode cX5_strokes 90 = .ok (.goto 4, 3) := by decide +kernel
theorem dX5_strokes_93 : decode cX5_strokes 93 = .ok (.iconst 0, 1) := by decide +kernel
theorem dX5_strokes_94 : decode cX5_strokes 94 = .ok (.istore 5, 2) := by decide +kernel
theorem dX5_strokes_96 : decode cX5_strokes 96 = .ok (.aload_n 0, 1) := by decide +kernel
theorem dX5_strokes_97 : decode cX5_strokes 97 = .ok (.getfield 38, 3) := by decide +kernel
theorem dX5_strokes_100 : decode cX5_strokes 100 = .ok (.iload 4, 2) := by decide +kernel
theorem dX5_strokes_102 : decode cX5_strokes 102 = .ok (.iload 5, 2) := by decide +kernel
theorem dX5_strokes_104 : decode cX5_strokes 104 = .ok (.ifCond .eq 28, 3) := by decide +kernel
theorem dX5_strokes_107 : decode cX5_strokes 107 = .ok (.aload_n 0, 1) := by decide +kernel
theorem dX5_strokes_108 : decode cX5_strokes 108 = .ok (.iload 4, 2) := by decide +kernel
theorem dX5_strokes_110 : decode cX5_strokes 110 = .ok (.invokevirtual 268, 3) := by decide +kernel
theorem dX5_strokes_113 : decode cX5_strokes 113 = .ok (.ifCond .eq 19, 3) := by decide +kernel
theorem dX5_strokes_116 : decode cX5_strokes 116 = .ok (.aload_n 0, 1) := by decide +kernel
theorem dX5_strokes_117 : decode cX5_strokes 117 = .ok (.iload 4, 2) := by decide +kernel
theorem dX5_strokes_119 : decode cX5_strokes 119 = .ok (.iload_n 3, 1) := by decide +kernel
theorem dX5_strokes_120 : decode cX5_strokes 120 = .ok (.aload_n 0, 1) := by decide +kernel
theorem dX5_strokes_121 : decode cX5_strokes 121 = .ok (.iload 4, 2) := by decide +kernel
theorem dX5_strokes_123 : decode cX5_strokes 123 = .ok (.invokevirtual 127, 3) := by decide +kernel
theorem dX5_strokes_126 : decode cX5_strokes 126 = .ok (.invokevirtual 271, 3) := by decide +kernel
theorem dX5_strokes_129 : decode cX5_strokes 129 = .ok (.goto 10, 3) := by decide +kernel
theorem dX5_strokes_132 : decode cX5_strokes 132 = .ok (.aload_n 0, 1) := by decide +kernel
theorem dX5_strokes_133 : decode cX5_strokes 133 = .ok (.getfield 35, 3) := by decide +kernel
theorem dX5_strokes_136 : decode cX5_strokes 136 = .ok (.iload 4, 2) := by decide +kernel
theorem dX5_strokes_138 : decode cX5_strokes 138 = .ok (.iaload, 1) := by decide +kernel
theorem dX5_strokes_139 : decode cX5_strokes 139 = .ok (.iastore, 1) := by decide +kernel
theorem dX5_strokes_140 : decode cX5_strokes 140 = .ok (.iinc 4 1, 3) := by decide +kernel
theorem dX5_strokes_143 : decode cX5_strokes 143 = .ok (.goto (-107), 3) := by decide +kernel
theorem dX5_strokes_146 : decode cX5_strokes 146 = .ok (.aload_n 0, 1) := by decide +kernel
theorem dX5_strokes_147 : decode cX5_strokes 147 = .ok (.invokevirtual 274, 3) := by decide +kernel
theorem dX5_strokes_150 : decode cX5_strokes 150 = .ok (.ireturn, 1) := by decide +kernel
abbrev cX5_isStroke : ByteArray := prog_7_method_45_code
abbrev mX5_isStroke : MethodName := { cls := "KinInTheHeapModel", name := "isStroke", desc := "(I)Z" }
theorem mwX5_isStroke : MWS mX5_isStroke (.code mX5_isStroke cX5_isStroke 1 (some .boolean)) 1 := ⟨w1238, w1237, w103, by decide +kernel⟩
theorem dX5_isStroke_0 : decode cX5_isStroke 0 = .ok (.iload_n 0, 1) := by decide +kernel
theorem dX5_isStroke_1 : decode cX5_isStroke 1 = .ok (.i2l, 1) := by decide +kernel
theorem dX5_isStroke_2 : decode cX5_isStroke 2 = .ok (.lconst 0, 1) := by decide +kernel
theorem dX5_isStroke_3 : decode cX5_isStroke 3 = .ok (.ldc2_w 277, 3) := by decide +kernel
theorem dX5_isStroke_6 : decode cX5_isStroke 6 = .ok (.invokestatic 79, 3) := by decide +kernel
theorem dX5_isStroke_9 : decode cX5_isStroke 9 = .ok (.ireturn, 1) := by decide +kernel
abbrev cX5_stroke : ByteArray := prog_7_method_46_code
abbrev mX5_stroke : MethodName := { cls := "KinInTheHeapModel", name := "stroke", desc := "(I)I" }
theorem mwX5_stroke : MWV mX5_stroke (.code mX5_stroke cX5_stroke 2 (some .int)) "KinInTheHeapModel" 1 := ⟨w1235, w1233, w1234, w103, w103, by decide +kernel⟩
theorem dX5_stroke_0 : decode cX5_stroke 0 = .ok (.iload_n 1, 1) := by decide +kernel
theorem dX5_stroke_1 : decode cX5_stroke 1 = .ok (.invokestatic 279, 3) := by decide +kernel
theorem dX5_stroke_4 : decode cX5_stroke 4 = .ok (.ifCond .eq 11, 3) := by decide +kernel
theorem dX5_stroke_7 : decode cX5_stroke 7 = .ok (.aload_n 0, 1) := by decide +kernel
theorem dX5_stroke_8 : decode cX5_stroke 8 = .ok (.iload_n 1, 1) := by decide +kernel
theorem dX5_stroke_9 : decode cX5_stroke 9 = .ok (.invokevirtual 282, 3) := by decide +kernel
theorem dX5_stroke_12 : decode cX5_stroke 12 = .ok (.goto 5, 3) := by decide +kernel
theorem dX5_stroke_15 : decode cX5_stroke 15 = .ok (.bipush (-2), 2) := by decide +kernel
theorem dX5_stroke_17 : decode cX5_stroke 17 = .ok (.ireturn, 1) := by decide +kernel
abbrev cX5_passes : ByteArray := prog_7_method_47_code
abbrev mX5_passes : MethodName := { cls := "KinInTheHeapModel", name := "passes", desc := "()I" }
theorem mwX5_passes : MWV mX5_passes (.code mX5_passes cX5_passes 3 (some .int)) "KinInTheHeapModel" 0 := ⟨w1266, w1265, w78, w103, w103, by decide +kernel⟩
theorem dX5_passes_0 : decode cX5_passes 0 = .ok (.iconst 0, 1) := by decide +kernel
theorem dX5_passes_1 : decode cX5_passes 1 = .ok (.istore_n 1, 1) := by decide +kernel
theorem dX5_passes_2 : decode cX5_passes 2 = .ok (.iload_n 1, 1) := by decide +kernel
theorem dX5_passes_3 : decode cX5_passes 3 = .ok (.aload_n 0, 1) := by decide +kernel
theorem dX5_passes_4 : decode cX5_passes 4 = .ok (.getfield 76, 3) := by decide +kernel
theorem dX5_passes_7 : decode cX5_passes 7 = .ok (.if_icmp .ge 56, 3) := by decide +kernel
theorem dX5_passes_10 : decode cX5_passes 10 = .ok (.aload_n 0, 1) := by decide +kernel
theorem dX5_passes_11 : decode cX5_passes 11 = .ok (.iload_n 1, 1) := by decide +kernel
theorem dX5_passes_12 : decode cX5_passes 12 = .ok (.invokevirtual 268, 3) := by decide +kernel
theorem dX5_passes_15 : decode cX5_passes 15 = .ok (.ifCond .eq 11, 3) := by decide +kernel
theorem dX5_passes_18 : decode cX5_passes 18 = .ok (.aload_n 0, 1) := by decide +kernel
theorem dX5_passes_19 : decode cX5_passes 19 = .ok (.iload_n 1, 1) := by decide +kernel
theorem dX5_passes_20 : decode cX5_passes 20 = .ok (.invokevirtual 133, 3) := by decide +kernel
theorem dX5_passes_23 : decode cX5_passes 23 = .ok (.goto 4, 3) := by decide +kernel
theorem dX5_passes_26 : decode cX5_passes 26 = .ok (.iconst 0, 1) := by decide +kernel
theorem dX5_passes_27 : decode cX5_passes 27 = .ok (.istore_n 2, 1) := by decide +kernel
theorem dX5_passes_28 : decode cX5_passes 28 = .ok (.aload_n 0, 1) := by decide +kernel
theorem dX5_passes_29 : decode cX5_passes 29 = .ok (.getfield 38, 3) := by decide +kernel
theorem dX5_passes_32 : decode cX5_passes 32 = .ok (.iload_n 1, 1) := by decide +kernel
theorem dX5_passes_33 : decode cX5_passes 33 = .ok (.iload_n 2, 1) := by decide +kernel
theorem dX5_passes_34 : decode cX5_passes 34 = .ok (.ifCond .ne 12, 3) := by decide +kernel
theorem dX5_passes_37 : decode cX5_passes 37 = .ok (.aload_n 0, 1) := by decide +kernel
theorem dX5_passes_38 : decode cX5_passes 38 = .ok (.getfield 35, 3) := by decide +kernel
theorem dX5_passes_41 : decode cX5_passes 41 = .ok (.iload_n 1, 1) := by decide +kernel
theorem dX5_passes_42 : decode cX5_passes 42 = .ok (.iaload, 1) := by decide +kernel
theorem dX5_passes_43 : decode cX5_passes 43 = .ok (.goto 13, 3) := by decide +kernel
theorem dX5_passes_46 : decode cX5_passes 46 = .ok (.aload_n 0, 1) := by decide +kernel
theorem dX5_passes_47 : decode cX5_passes 47 = .ok (.getfield 35, 3) := by decide +kernel
theorem dX5_passes_50 : decode cX5_passes 50 = .ok (.iload_n 1, 1) := by decide +kernel
theorem dX5_passes_51 : decode cX5_passes 51 = .ok (.iaload, 1) := by decide +kernel
theorem dX5_passes_52 : decode cX5_passes 52 = .ok (.iload_n 2, 1) := by decide +kernel
theorem dX5_passes_53 : decode cX5_passes 53 = .ok (.invokestatic 265, 3) := by decide +kernel
theorem dX5_passes_56 : decode cX5_passes 56 = .ok (.iastore, 1) := by decide +kernel
theorem dX5_passes_57 : decode cX5_passes 57 = .ok (.iinc 1 1, 3) := by decide +kernel
theorem dX5_passes_60 : decode cX5_passes 60 = .ok (.goto (-58), 3) := by decide +kernel
theorem dX5_passes_63 : decode cX5_passes 63 = .ok (.aload_n 0, 1) := by decide +kernel
theorem dX5_passes_64 : decode cX5_passes 64 = .ok (.dup, 1) := by decide +kernel
theorem dX5_passes_65 : decode cX5_passes 65 = .ok (.getfield 112, 3) := by decide +kernel
theorem dX5_passes_68 : decode cX5_passes 68 = .ok (.iconst 1, 1) := by decide +kernel
theorem dX5_passes_69 : decode cX5_passes 69 = .ok (.iadd, 1) := by decide +kernel
theorem dX5_passes_70 : decode cX5_passes 70 = .ok (.putfield 112, 3) := by decide +kernel
theorem dX5_passes_73 : decode cX5_passes 73 = .ok (.aload_n 0, 1) := by decide +kernel
theorem dX5_passes_74 : decode cX5_passes 74 = .ok (.invokevirtual 274, 3) := by decide +kernel
theorem dX5_passes_77 : decode cX5_passes 77 = .ok (.ireturn, 1) := by decide +kernel
abbrev cX5_week : ByteArray := prog_7_method_48_code
abbrev mX5_week : MethodName := { cls := "KinInTheHeapModel", name := "week", desc := "()I" }
theorem mwX5_week : MWV mX5_week (.code mX5_week cX5_week 1 (some .int)) "KinInTheHeapModel" 0 := ⟨w1262, w1260, w1261, w103, w103, by decide +kernel⟩
theorem dX5_week_0 : decode cX5_week 0 = .ok (.aload_n 0, 1) := by decide +kernel
theorem dX5_week_1 : decode cX5_week 1 = .ok (.getfield 112, 3) := by decide +kernel
theorem dX5_week_4 : decode cX5_week 4 = .ok (.sipush 999, 3) := by decide +kernel
theorem dX5_week_7 : decode cX5_week 7 = .ok (.if_icmp .ne 8, 3) := by decide +kernel
theorem dX5_week_10 : decode cX5_week 10 = .ok (.bipush (-3), 2) := by decide +kernel
theorem dX5_week_12 : decode cX5_week 12 = .ok (.goto 7, 3) := by decide +kernel
theorem dX5_week_15 : decode cX5_week 15 = .ok (.aload_n 0, 1) := by decide +kernel
theorem dX5_week_16 : decode cX5_week 16 = .ok (.invokevirtual 285, 3) := by decide +kernel
theorem dX5_week_19 : decode cX5_week 19 = .ok (.ireturn, 1) := by decide +kernel
abbrev cX5_laysAside : ByteArray := prog_7_method_49_code
abbrev mX5_laysAside : MethodName := { cls := "KinInTheHeapModel", name := "laysAside", desc := "()V" }
theorem mwX5_laysAside : MWV mX5_laysAside (.code mX5_laysAside cX5_laysAside 2 none) "KinInTheHeapModel" 0 := ⟨w1283, w1282, w80, w103, w103, by decide +kernel⟩
theorem dX5_laysAside_0 : decode cX5_laysAside 0 = .ok (.iconst 0, 1) := by decide +kernel
theorem dX5_laysAside_1 : decode cX5_laysAside 1 = .ok (.istore_n 1, 1) := by decide +kernel
theorem dX5_laysAside_2 : decode cX5_laysAside 2 = .ok (.iload_n 1, 1) := by decide +kernel
theorem dX5_laysAside_3 : decode cX5_laysAside 3 = .ok (.bipush 8, 2) := by decide +kernel
theorem dX5_laysAside_5 : decode cX5_laysAside 5 = .ok (.if_icmp .ge 21, 3) := by decide +kernel
theorem dX5_laysAside_8 : decode cX5_laysAside 8 = .ok (.aload_n 0, 1) := by decide +kernel
theorem dX5_laysAside_9 : decode cX5_laysAside 9 = .ok (.getfield 41, 3) := by decide +kernel
theorem dX5_laysAside_12 : decode cX5_laysAside 12 = .ok (.iload_n 1, 1) := by decide +kernel
theorem dX5_laysAside_13 : decode cX5_laysAside 13 = .ok (.aload_n 0, 1) := by decide +kernel
theorem dX5_laysAside_14 : decode cX5_laysAside 14 = .ok (.getfield 35, 3) := by decide +kernel
theorem dX5_laysAside_17 : decode cX5_laysAside 17 = .ok (.iload_n 1, 1) := by decide +kernel
theorem dX5_laysAside_18 : decode cX5_laysAside 18 = .ok (.iaload, 1) := by decide +kernel
theorem dX5_laysAside_19 : decode cX5_laysAside 19 = .ok (.iastore, 1) := by decide +kernel
theorem dX5_laysAside_20 : decode cX5_laysAside 20 = .ok (.iinc 1 1, 3) := by decide +kernel
theorem dX5_laysAside_23 : decode cX5_laysAside 23 = .ok (.goto (-21), 3) := by decide +kernel
theorem dX5_laysAside_26 : decode cX5_laysAside 26 = .ok (.aload_n 0, 1) := by decide +kernel
theorem dX5_laysAside_27 : decode cX5_laysAside 27 = .ok (.aload_n 0, 1) := by decide +kernel
theorem dX5_laysAside_28 : decode cX5_laysAside 28 = .ok (.getfield 112, 3) := by decide +kernel
theorem dX5_laysAside_31 : decode cX5_laysAside 31 = .ok (.putfield 288, 3) := by decide +kernel
theorem dX5_laysAside_34 : decode cX5_laysAside 34 = .ok (.return_, 1) := by decide +kernel
abbrev cX5_laysBack : ByteArray := prog_7_method_50_code
abbrev mX5_laysBack : MethodName := { cls := "KinInTheHeapModel", name := "laysBack", desc := "()V" }
theorem mwX5_laysBack : MWV mX5_laysBack (.code mX5_laysBack cX5_laysBack 2 none) "KinInTheHeapModel" 0 := ⟨w1306, w1305, w85, w103, w103, by decide +kernel⟩
theorem dX5_laysBack_0 : decode cX5_laysBack 0 = .ok (.iconst 0, 1) := by decide +kernel
theorem dX5_laysBack_1 : decode cX5_laysBack 1 = .ok (.istore_n 1, 1) := by decide +kernel
theorem dX5_laysBack_2 : decode cX5_laysBack 2 = .ok (.iload_n 1, 1) := by decide +kernel
theorem dX5_laysBack_3 : decode cX5_laysBack 3 = .ok (.bipush 8, 2) := by decide +kernel
theorem dX5_laysBack_5 : decode cX5_laysBack 5 = .ok (.if_icmp .ge 21, 3) := by decide +kernel
theorem dX5_laysBack_8 : decode cX5_laysBack 8 = .ok (.aload_n 0, 1) := by decide +kernel
theorem dX5_laysBack_9 : decode cX5_laysBack 9 = .ok (.getfield 35, 3) := by decide +kernel
theorem dX5_laysBack_12 : decode cX5_laysBack 12 = .ok (.iload_n 1, 1) := by decide +kernel
theorem dX5_laysBack_13 : decode cX5_laysBack 13 = .ok (.aload_n 0, 1) := by decide +kernel
theorem dX5_laysBack_14 : decode cX5_laysBack 14 = .ok (.getfield 41, 3) := by decide +kernel
theorem dX5_laysBack_17 : decode cX5_laysBack 17 = .ok (.iload_n 1, 1) := by decide +kernel
theorem dX5_laysBack_18 : decode cX5_laysBack 18 = .ok (.iaload, 1) := by decide +kernel
theorem dX5_laysBack_19 : decode cX5_laysBack 19 = .ok (.iastore, 1) := by decide +kernel
theorem dX5_laysBack_20 : decode cX5_laysBack 20 = .ok (.iinc 1 1, 3) := by decide +kernel
theorem dX5_laysBack_23 : decode cX5_laysBack 23 = .ok (.goto (-21), 3) := by decide +kernel
theorem dX5_laysBack_26 : decode cX5_laysBack 26 = .ok (.aload_n 0, 1) := by decide +kernel
theorem dX5_laysBack_27 : decode cX5_laysBack 27 = .ok (.aload_n 0, 1) := by decide +kernel
theorem dX5_laysBack_28 : decode cX5_laysBack 28 = .ok (.getfield 288, 3) := by decide +kernel
theorem dX5_laysBack_31 : decode cX5_laysBack 31 = .ok (.putfield 112, 3) := by decide +kernel
theorem dX5_laysBack_34 : decode cX5_laysBack 34 = .ok (.return_, 1) := by decide +kernel
abbrev cX5_heaps : ByteArray := prog_7_method_51_code
abbrev mX5_heaps : MethodName := { cls := "KinInTheHeapModel", name := "heaps", desc := "()I" }
theorem mwX5_heaps : MWV mX5_heaps (.code mX5_heaps cX5_heaps 3 (some .int)) "KinInTheHeapModel" 0 := ⟨w1295, w1294, w83, w103, w103, by decide +kernel⟩
theorem dX5_heaps_0 : decode cX5_heaps 0 = .ok (.iconst 0, 1) := by decide +kernel
theorem dX5_heaps_1 : decode cX5_heaps 1 = .ok (.istore_n 1, 1) := by decide +kernel
theorem dX5_heaps_2 : decode cX5_heaps 2 = .ok (.iconst 0, 1) := by decide +kernel
theorem dX5_heaps_3 : decode cX5_heaps 3 = .ok (.istore_n 2, 1) := by decide +kernel
theorem dX5_heaps_4 : decode cX5_heaps 4 = .ok (.iload_n 2, 1) := by decide +kernel
theorem dX5_heaps_5 : decode cX5_heaps 5 = .ok (.bipush 36, 2) := by decide +kernel
theorem dX5_heaps_7 : decode cX5_heaps 7 = .ok (.if_icmp .ge 25, 3) := by decide +kernel
theorem dX5_heaps_10 : decode cX5_heaps 10 = .ok (.iload_n 1, 1) := by decide +kernel
theorem dX5_heaps_11 : decode cX5_heaps 11 = .ok (.aload_n 0, 1) := by decide +kernel
theorem dX5_heaps_12 : decode cX5_heaps 12 = .ok (.iload_n 2, 1) := by decide +kernel
theorem dX5_heaps_13 : decode cX5_heaps 13 = .ok (.invokevirtual 124, 3) := by decide +kernel
theorem dX5_heaps_16 : decode cX5_heaps 16 = .ok (.ifCond .ne 7, 3) := by decide +kernel
theorem dX5_heaps_19 : decode cX5_heaps 19 = .ok (.iconst 0, 1) := by decide +kernel
theorem dX5_heaps_20 : decode cX5_heaps 20 = .ok (.goto 4, 3) := by decide +kernel
theorem dX5_heaps_23 : decode cX5_heaps 23 = .ok (.iconst 1, 1) := by decide +kernel
theorem dX5_heaps_24 : decode cX5_heaps 24 = .ok (.iadd, 1) := by decide +kernel
theorem dX5_heaps_25 : decode cX5_heaps 25 = .ok (.istore_n 1, 1) := by decide +kernel
theorem dX5_heaps_26 : decode cX5_heaps 26 = .ok (.iinc 2 1, 3) := by decide +kernel
theorem dX5_heaps_29 : decode cX5_heaps 29 = .ok (.goto (-25), 3) := by decide +kernel
theorem dX5_heaps_32 : decode cX5_heaps 32 = .ok (.iload_n 1, 1) := by decide +kernel
theorem dX5_heaps_33 : decode cX5_heaps 33 = .ok (.ireturn, 1) := by decide +kernel
abbrev cX5_greatest : ByteArray := prog_7_method_52_code
abbrev mX5_greatest : MethodName := { cls := "KinInTheHeapModel", name := "greatest", desc := "()I" }
theorem mwX5_greatest : MWV mX5_greatest (.code mX5_greatest cX5_greatest 3 (some .int)) "KinInTheHeapModel" 0 := ⟨w1318, w1317, w86, w103, w103, by decide +kernel⟩
theorem dX5_greatest_0 : decode cX5_greatest 0 = .ok (.iconst 0, 1) := by decide +kernel
theorem dX5_greatest_1 : decode cX5_greatest 1 = .ok (.istore_n 1, 1) := by decide +kernel
theorem dX5_greatest_2 : decode cX5_greatest 2 = .ok (.iconst 0, 1) := by decide +kernel
theorem dX5_greatest_3 : decode cX5_greatest 3 = .ok (.istore_n 2, 1) := by decide +kernel
theorem dX5_greatest_4 : decode cX5_greatest 4 = .ok (.iload_n 2, 1) := by decide +kernel
theorem dX5_greatest_5 : decode cX5_greatest 5 = .ok (.bipush 36, 2) := by decide +kernel
theorem dX5_greatest_7 : decode cX5_greatest 7 = .ok (.if_icmp .ge 34, 3) := by decide +kernel
theorem dX5_greatest_10 : decode cX5_greatest 10 = .ok (.aload_n 0, 1) := by decide +kernel
theorem dX5_greatest_11 : decode cX5_greatest 11 = .ok (.iload_n 2, 1) := by decide +kernel
theorem dX5_greatest_12 : decode cX5_greatest 12 = .ok (.invokevirtual 124, 3) := by decide +kernel
theorem dX5_greatest_15 : decode cX5_greatest 15 = .ok (.invokestatic 252, 3) := by decide +kernel
theorem dX5_greatest_18 : decode cX5_greatest 18 = .ok (.iload_n 1, 1) := by decide +kernel
theorem dX5_greatest_19 : decode cX5_greatest 19 = .ok (.if_icmp .le 14, 3) := by decide +kernel
theorem dX5_greatest_22 : decode cX5_greatest 22 = .ok (.aload_n 0, 1) := by decide +kernel
theorem dX5_greatest_23 : decode cX5_greatest 23 = .ok (.iload_n 2, 1) := by decide +kernel
theorem dX5_greatest_24 : decode cX5_greatest 24 = .ok (.invokevirtual 124, 3) := by decide +kernel
theorem dX5_greatest_27 : decode cX5_greatest 27 = .ok (.invokestatic 252, 3) := by decide +kernel
theorem dX5_greatest_30 : decode cX5_greatest 30 = .ok (.goto 4, 3) := by decide +kernel
theorem dX5_greatest_33 : decode cX5_greatest 33 = .ok (.iload_n 1, 1) := by decide +kernel
theorem dX5_greatest_34 : decode cX5_greatest 34 = .ok (.istore_n 1, 1) := by decide +kernel
theorem dX5_greatest_35 : decode cX5_greatest 35 = .ok (.iinc 2 1, 3) := by decide +kernel
theorem dX5_greatest_38 : decode cX5_greatest 38 = .ok (.goto (-34), 3) := by decide +kernel
theorem dX5_greatest_41 : decode cX5_greatest 41 = .ok (.iload_n 1, 1) := by decide +kernel
theorem dX5_greatest_42 : decode cX5_greatest 42 = .ok (.ireturn, 1) := by decide +kernel
abbrev cX5_togethers : ByteArray := prog_7_method_53_code
abbrev mX5_togethers : MethodName := { cls := "KinInTheHeapModel", name := "togethers", desc := "()I" }
theorem mwX5_togethers : MWV mX5_togethers (.code mX5_togethers cX5_togethers 4 (some .int)) "KinInTheHeapModel" 0 := ⟨w1291, w1290, w82, w103, w103, by decide +kernel⟩
theorem dX5_togethers_0 : decode cX5_togethers 0 = .ok (.iconst 0, 1) := by decide +kernel
theorem dX5_togethers_1 : decode cX5_togethers 1 = .ok (.istore_n 1, 1) := by decide +kernel
theorem dX5_togethers_2 : decode cX5_togethers 2 = .ok (.iconst 0, 1) := by decide +kernel
theorem dX5_togethers_3 : decode cX5_togethers 3 = .ok (.istore_n 2, 1) := by decide +kernel
theorem dX5_togethers_4 : decode cX5_togethers 4 = .ok (.iload_n 2, 1) := by decide +kernel
theorem dX5_togethers_5 : decode cX5_togethers 5 = .ok (.aload_n 0, 1) := by decide +kernel
theorem dX5_togethers_6 : decode cX5_togethers 6 = .ok (.getfield 76, 3) := by decide +kernel
theorem dX5_togethers_9 : decode cX5_togethers 9 = .ok (.if_icmp .ge 60, 3) := by decide +kernel
theorem dX5_togethers_12 : decode cX5_togethers 12 = .ok (.iload_n 2, 1) := by decide +kernel
theorem dX5_togethers_13 : decode cX5_togethers 13 = .ok (.iconst 1, 1) := by decide +kernel
theorem dX5_togethers_14 : decode cX5_togethers 14 = .ok (.iadd, 1) := by decide +kernel
theorem dX5_togethers_15 : decode cX5_togethers 15 = .ok (.istore_n 3, 1) := by decide +kernel
theorem dX5_togethers_16 : decode cX5_togethers 16 = .ok (.iload_n 3, 1) := by decide +kernel
theorem dX5_togethers_17 : decode cX5_togethers 17 = .ok (.aload_n 0, 1) := by decide +kernel
theorem dX5_togethers_18 : decode cX5_togethers 18 = .ok (.getfield 76, 3) := by decide +kernel
theorem dX5_togethers_21 : decode cX5_togethers 21 = .ok (.if_icmp .ge 42, 3) := by decide +kernel
theorem dX5_togethers_24 : decode cX5_togethers 24 = .ok (.iload_n 1, 1) := by decide +kernel
theorem dX5_togethers_25 : decode cX5_togethers 25 = .ok (.aload_n 0, 1) := by decide +kernel
theorem dX5_togethers_26 : decode cX5_togethers 26 = .ok (.getfield 35, 3) := by decide +kernel
theorem dX5_togethers_29 : decode cX5_togethers 29 = .ok (.iload_n 2, 1) := by decide +kernel
theorem dX5_togethers_30 : decode cX5_togethers 30 = .ok (.iaload, 1) := by decide +kernel
theorem dX5_togethers_31 : decode cX5_togethers 31 = .ok (.iconst (-1), 1) := by decide +kernel
theorem dX5_togethers_32 : decode cX5_togethers 32 = .ok (.if_icmp .eq 22, 3) := by decide +kernel
theorem dX5_togethers_35 : decode cX5_togethers 35 = .ok (.aload_n 0, 1) := by decide +kernel
theorem dX5_togethers_36 : decode cX5_togethers 36 = .ok (.getfield 35, 3) := by decide +kernel
theorem dX5_togethers_39 : decode cX5_togethers 39 = .ok (.iload_n 2, 1) := by decide +kernel
theorem dX5_togethers_40 : decode cX5_togethers 40 = .ok (.iaload, 1) := by decide +kernel
theorem dX5_togethers_41 : decode cX5_togethers 41 = .ok (.aload_n 0, 1) := by decide +kernel
theorem dX5_togethers_42 : decode cX5_togethers 42 = .ok (.getfield 35, 3) := by decide +kernel
theorem dX5_togethers_45 : decode cX5_togethers 45 = .ok (.iload_n 3, 1) := by decide +kernel
theorem dX5_togethers_46 : decode cX5_togethers 46 = .ok (.iaload, 1) := by decide +kernel
theorem dX5_togethers_47 : decode cX5_togethers 47 = .ok (.if_icmp .ne 7, 3) := by decide +kernel
theorem dX5_togethers_50 : decode cX5_togethers 50 = .ok (.iconst 1, 1) := by decide +kernel
theorem dX5_togethers_51 : decode cX5_togethers 51 = .ok (.goto 4, 3) := by decide +kernel
theorem dX5_togethers_54 : decode cX5_togethers 54 = .ok (.iconst 0, 1) := by decide +kernel
theorem dX5_togethers_55 : decode cX5_togethers 55 = .ok (.iadd, 1) := by decide +kernel
theorem dX5_togethers_56 : decode cX5_togethers 56 = .ok (.istore_n 1, 1) := by decide +kernel
theorem dX5_togethers_57 : decode cX5_togethers 57 = .ok (.iinc 3 1, 3) := by decide +kernel
theorem dX5_togethers_60 : decode cX5_togethers 60 = .ok (.goto (-44), 3) := by decide +kernel
theorem dX5_togethers_63 : decode cX5_togethers 63 = .ok (.iinc 2 1, 3) := by decide +kernel
theorem dX5_togethers_66 : decode cX5_togethers 66 = .ok (.goto (-62), 3) := by decide +kernel
theorem dX5_togethers_69 : decode cX5_togethers 69 = .ok (.iload_n 1, 1) := by decide +kernel
theorem dX5_togethers_70 : decode cX5_togethers 70 = .ok (.ireturn, 1) := by decide +kernel
abbrev cX5_apart : ByteArray := prog_7_method_54_code
abbrev mX5_apart : MethodName := { cls := "KinInTheHeapModel", name := "apart", desc := "(II)I" }
theorem mwX5_apart : MWS mX5_apart (.code mX5_apart cX5_apart 2 (some .int)) 2 := ⟨w1302, w1301, w103, by decide +kernel⟩
theorem dX5_apart_0 : decode cX5_apart 0 = .ok (.iload_n 0, 1) := by decide +kernel
theorem dX5_apart_1 : decode cX5_apart 1 = .ok (.iload_n 1, 1) := by decide +kernel
theorem dX5_apart_2 : decode cX5_apart 2 = .ok (.if_icmp .ge 9, 3) := by decide +kernel
theorem dX5_apart_5 : decode cX5_apart 5 = .ok (.iload_n 1, 1) := by decide +kernel
theorem dX5_apart_6 : decode cX5_apart 6 = .ok (.iload_n 0, 1) := by decide +kernel
theorem dX5_apart_7 : decode cX5_apart 7 = .ok (.isub, 1) := by decide +kernel
theorem dX5_apart_8 : decode cX5_apart 8 = .ok (.goto 6, 3) := by decide +kernel
theorem dX5_apart_11 : decode cX5_apart 11 = .ok (.iload_n 0, 1) := by decide +kernel
theorem dX5_apart_12 : decode cX5_apart 12 = .ok (.iload_n 1, 1) := by decide +kernel
theorem dX5_apart_13 : decode cX5_apart 13 = .ok (.isub, 1) := by decide +kernel
theorem dX5_apart_14 : decode cX5_apart 14 = .ok (.ireturn, 1) := by decide +kernel
abbrev cX5_spread : ByteArray := prog_7_method_55_code
abbrev mX5_spread : MethodName := { cls := "KinInTheHeapModel", name := "spread", desc := "()I" }
theorem mwX5_spread : MWV mX5_spread (.code mX5_spread cX5_spread 5 (some .int)) "KinInTheHeapModel" 0 := ⟨w1299, w1298, w84, w103, w103, by decide +kernel⟩
theorem dX5_spread_0 : decode cX5_spread 0 = .ok (.iconst 0, 1) := by decide +kernel
theorem dX5_spread_1 : decode cX5_spread 1 = .ok (.istore_n 1, 1) := by decide +kernel
theorem dX5_spread_2 : decode cX5_spread 2 = .ok (.iconst 0, 1) := by decide +kernel
theorem dX5_spread_3 : decode cX5_spread 3 = .ok (.istore_n 2, 1) := by decide +kernel
theorem dX5_spread_4 : decode cX5_spread 4 = .ok (.iload_n 2, 1) := by decide +kernel
theorem dX5_spread_5 : decode cX5_spread 5 = .ok (.aload_n 0, 1) := by decide +kernel
theorem dX5_spread_6 : decode cX5_spread 6 = .ok (.getfield 76, 3) := by decide +kernel
theorem dX5_spread_9 : decode cX5_spread 9 = .ok (.if_icmp .ge 109, 3) := by decide +kernel
theorem dX5_spread_12 : decode cX5_spread 12 = .ok (.iload_n 2, 1) := by decide +kernel
theorem dX5_spread_13 : decode cX5_spread 13 = .ok (.iconst 1, 1) := by decide +kernel
theorem dX5_spread_14 : decode cX5_spread 14 = .ok (.iadd, 1) := by decide +kernel
theorem dX5_spread_15 : decode cX5_spread 15 = .ok (.istore_n 3, 1) := by decide +kernel
theorem dX5_spread_16 : decode cX5_spread 16 = .ok (.iload_n 3, 1) := by decide +kernel
theorem dX5_spread_17 : decode cX5_spread 17 = .ok (.aload_n 0, 1) := by decide +kernel
theorem dX5_spread_18 : decode cX5_spread 18 = .ok (.getfield 76, 3) := by decide +kernel
theorem dX5_spread_21 : decode cX5_spread 21 = .ok (.if_icmp .ge 91, 3) := by decide +kernel
theorem dX5_spread_24 : decode cX5_spread 24 = .ok (.aload_n 0, 1) := by decide +kernel
theorem dX5_spread_25 : decode cX5_spread 25 = .ok (.getfield 35, 3) := by decide +kernel
theorem dX5_spread_28 : decode cX5_spread 28 = .ok (.iload_n 2, 1) := by decide +kernel
theorem dX5_spread_29 : decode cX5_spread 29 = .ok (.iaload, 1) := by decide +kernel
theorem dX5_spread_30 : decode cX5_spread 30 = .ok (.iconst (-1), 1) := by decide +kernel
theorem dX5_spread_31 : decode cX5_spread 31 = .ok (.if_icmp .eq 17, 3) := by decide +kernel
theorem dX5_spread_34 : decode cX5_spread 34 = .ok (.aload_n 0, 1) := by decide +kernel
theorem dX5_spread_35 : decode cX5_spread 35 = .ok (.getfield 35, 3) := by decide +kernel
theorem dX5_spread_38 : decode cX5_spread 38 = .ok (.iload_n 3, 1) := by decide +kernel
theorem dX5_spread_39 : decode cX5_spread 39 = .ok (.iaload, 1) := by decide +kernel
theorem dX5_spread_40 : decode cX5_spread 40 = .ok (.iconst (-1), 1) := by decide +kernel
theorem dX5_spread_41 : decode cX5_spread 41 = .ok (.if_icmp .eq 7, 3) := by decide +kernel
theorem dX5_spread_44 : decode cX5_spread 44 = .ok (.iconst 1, 1) := by decide +kernel
theorem dX5_spread_45 : decode cX5_spread 45 = .ok (.goto 4, 3) := by decide +kernel
theorem dX5_spread_48 : decode cX5_spread 48 = .ok (.iconst 0, 1) := by decide +kernel
theorem dX5_spread_49 : decode cX5_spread 49 = .ok (.istore 4, 2) := by decide +kernel
theorem dX5_spread_51 : decode cX5_spread 51 = .ok (.iload_n 1, 1) := by decide +kernel
theorem dX5_spread_52 : decode cX5_spread 52 = .ok (.iload 4, 2) := by decide +kernel
theorem dX5_spread_54 : decode cX5_spread 54 = .ok (.ifCond .eq 49, 3) := by decide +kernel
theorem dX5_spread_57 : decode cX5_spread 57 = .ok (.aload_n 0, 1) := by decide +kernel
theorem dX5_spread_58 : decode cX5_spread 58 = .ok (.getfield 35, 3) := by decide +kernel
theorem dX5_spread_61 : decode cX5_spread 61 = .ok (.iload_n 2, 1) := by decide +kernel
theorem dX5_spread_62 : decode cX5_spread 62 = .ok (.iaload, 1) := by decide +kernel
theorem dX5_spread_63 : decode cX5_spread 63 = .ok (.bipush 6, 2) := by decide +kernel
theorem dX5_spread_65 : decode cX5_spread 65 = .ok (.idiv, 1) := by decide +kernel
theorem dX5_spread_66 : decode cX5_spread 66 = .ok (.aload_n 0, 1) := by decide +kernel
theorem dX5_spread_67 : decode cX5_spread 67 = .ok (.getfield 35, 3) := by decide +kernel
theorem dX5_spread_70 : decode cX5_spread 70 = .ok (.iload_n 3, 1) := by decide +kernel
theorem dX5_spread_71 : decode cX5_spread 71 = .ok (.iaload, 1) := by decide +kernel
theorem dX5_spread_72 : decode cX5_spread 72 = .ok (.bipush 6, 2) := by decide +kernel
theorem dX5_spread_74 : decode cX5_spread 74 = .ok (.idiv, 1) := by decide +kernel
theorem dX5_spread_75 : decode cX5_spread 75 = .ok (.invokestatic 291, 3) := by decide +kernel
theorem dX5_spread_78 : decode cX5_spread 78 = .ok (.aload_n 0, 1) := by decide +kernel
theorem dX5_spread_79 : decode cX5_spread 79 = .ok (.getfield 35, 3) := by decide +kernel
theorem dX5_spread_82 : decode cX5_spread 82 = .ok (.iload_n 2, 1) := by decide +kernel
theorem dX5_spread_83 : decode cX5_spread 83 = .ok (.iaload, 1) := by decide +kernel
theorem dX5_spread_84 : decode cX5_spread 84 = .ok (.bipush 6, 2) := by decide +kernel
theorem dX5_spread_86 : decode cX5_spread 86 = .ok (.irem, 1) := by decide +kernel
theorem dX5_spread_87 : decode cX5_spread 87 = .ok (.aload_n 0, 1) := by decide +kernel
theorem dX5_spread_88 : decode cX5_spread 88 = .ok (.getfield 35, 3) := by decide +kernel
theorem dX5_spread_91 : decode cX5_spread 91 = .ok (.iload_n 3, 1) := by decide +kernel
theorem dX5_spread_92 : decode cX5_spread 92 = .ok (.iaload, 1) := by decide +kernel
theorem dX5_spread_93 : decode cX5_spread 93 = .ok (.bipush 6, 2) := by decide +kernel
theorem dX5_spread_95 : decode cX5_spread 95 = .ok (.irem, 1) := by decide +kernel
theorem dX5_spread_96 : decode cX5_spread 96 = .ok (.invokestatic 291, 3) := by decide +kernel
theorem dX5_spread_99 : decode cX5_spread 99 = .ok (.iadd, 1) := by decide +kernel
theorem dX5_spread_100 : decode cX5_spread 100 = .ok (.goto 4, 3) := by decide +kernel
theorem dX5_spread_103 : decode cX5_spread 103 = .ok (.iconst 0, 1) := by decide +kernel
theorem dX5_spread_104 : decode cX5_spread 104 = .ok (.iadd, 1) := by decide +kernel
theorem dX5_spread_105 : decode cX5_spread 105 = .ok (.istore_n 1, 1) := by decide +kernel
theorem dX5_spread_106 : decode cX5_spread 106 = .ok (.iinc 3 1, 3) := by decide +kernel
theorem dX5_spread_109 : decode cX5_spread 109 = .ok (.goto (-93), 3) := by decide +kernel
theorem dX5_spread_112 : decode cX5_spread 112 = .ok (.iinc 2 1, 3) := by decide +kernel
theorem dX5_spread_115 : decode cX5_spread 115 = .ok (.goto (-111), 3) := by decide +kernel
theorem dX5_spread_118 : decode cX5_spread 118 = .ok (.iload_n 1, 1) := by decide +kernel
theorem dX5_spread_119 : decode cX5_spread 119 = .ok (.ireturn, 1) := by decide +kernel
abbrev cX5_outMany : ByteArray := prog_7_method_56_code
abbrev mX5_outMany : MethodName := { cls := "KinInTheHeapModel", name := "outMany", desc := "()I" }
theorem mwX5_outMany : MWV mX5_outMany (.code mX5_outMany cX5_outMany 1 (some .int)) "KinInTheHeapModel" 0 := ⟨w1355, w1354, w92, w103, w103, by decide +kernel⟩
theorem dX5_outMany_0 : decode cX5_outMany 0 = .ok (.aload_n 0, 1) := by decide +kernel
theorem dX5_outMany_1 : decode cX5_outMany 1 = .ok (.iconst (-1), 1) := by decide +kernel
theorem dX5_outMany_2 : decode cX5_outMany 2 = .ok (.invokevirtual 124, 3) := by decide +kernel
theorem dX5_outMany_5 : decode cX5_outMany 5 = .ok (.invokestatic 252, 3) := by decide +kernel
theorem dX5_outMany_8 : decode cX5_outMany 8 = .ok (.ireturn, 1) := by decide +kernel
abbrev cX5_sweepBad : ByteArray := prog_7_method_57_code
abbrev mX5_sweepBad : MethodName := { cls := "KinInTheHeapModel", name := "sweepBad", desc := "(I)I" }
theorem mwX5_sweepBad : MWV mX5_sweepBad (.code mX5_sweepBad cX5_sweepBad 3 (some .int)) "KinInTheHeapModel" 1 := ⟨w1279, w1278, w79, w103, w103, by decide +kernel⟩
theorem dX5_sweepBad_0 : decode cX5_sweepBad 0 = .ok (.aload_n 0, 1) := by decide +kernel
theorem dX5_sweepBad_1 : decode cX5_sweepBad 1 = .ok (.getfield 56, 3) := by decide +kernel
theorem dX5_sweepBad_4 : decode cX5_sweepBad 4 = .ok (.iload_n 1, 1) := by decide +kernel
theorem dX5_sweepBad_5 : decode cX5_sweepBad 5 = .ok (.baload, 1) := by decide +kernel
theorem dX5_sweepBad_6 : decode cX5_sweepBad 6 = .ok (.ifCond .ne 6, 3) := by decide +kernel
theorem dX5_sweepBad_9 : decode cX5_sweepBad 9 = .ok (.bipush (-11), 2) := by decide +kernel
theorem dX5_sweepBad_11 : decode cX5_sweepBad 11 = .ok (.ireturn, 1) := by decide +kernel
theorem dX5_sweepBad_12 : decode cX5_sweepBad 12 = .ok (.iconst 0, 1) := by decide +kernel
theorem dX5_sweepBad_13 : decode cX5_sweepBad 13 = .ok (.istore_n 2, 1) := by decide +kernel
theorem dX5_sweepBad_14 : decode cX5_sweepBad 14 = .ok (.iload_n 2, 1) := by decide +kernel
theorem dX5_sweepBad_15 : decode cX5_sweepBad 15 = .ok (.aload_n 0, 1) := by decide +kernel
theorem dX5_sweepBad_16 : decode cX5_sweepBad 16 = .ok (.getfield 63, 3) := by decide +kernel
theorem dX5_sweepBad_19 : decode cX5_sweepBad 19 = .ok (.iload_n 1, 1) := by decide +kernel
theorem dX5_sweepBad_20 : decode cX5_sweepBad 20 = .ok (.iaload, 1) := by decide +kernel
theorem dX5_sweepBad_21 : decode cX5_sweepBad 21 = .ok (.if_icmp .ge 29, 3) := by decide +kernel
theorem dX5_sweepBad_24 : decode cX5_sweepBad 24 = .ok (.aload_n 0, 1) := by decide +kernel
theorem dX5_sweepBad_25 : decode cX5_sweepBad 25 = .ok (.getfield 66, 3) := by decide +kernel
theorem dX5_sweepBad_28 : decode cX5_sweepBad 28 = .ok (.bipush 40, 2) := by decide +kernel
theorem dX5_sweepBad_30 : decode cX5_sweepBad 30 = .ok (.iload_n 1, 1) := by decide +kernel
theorem dX5_sweepBad_31 : decode cX5_sweepBad 31 = .ok (.imul, 1) := by decide +kernel
theorem dX5_sweepBad_32 : decode cX5_sweepBad 32 = .ok (.iload_n 2, 1) := by decide +kernel
theorem dX5_sweepBad_33 : decode cX5_sweepBad 33 = .ok (.iadd, 1) := by decide +kernel
theorem dX5_sweepBad_34 : decode cX5_sweepBad 34 = .ok (.iaload, 1) := by decide +kernel
theorem dX5_sweepBad_35 : decode cX5_sweepBad 35 = .ok (.invokestatic 279, 3) := by decide +kernel
theorem dX5_sweepBad_38 : decode cX5_sweepBad 38 = .ok (.ifCond .ne 6, 3) := by decide +kernel
theorem dX5_sweepBad_41 : decode cX5_sweepBad 41 = .ok (.bipush (-2), 2) := by decide +kernel
theorem dX5_sweepBad_43 : decode cX5_sweepBad 43 = .ok (.ireturn, 1) := by decide +kernel
theorem dX5_sweepBad_44 : decode cX5_sweepBad 44 = .ok (.iinc 2 1, 3) := by decide +kernel
theorem dX5_sweepBad_47 : decode cX5_sweepBad 47 = .ok (.goto (-33), 3) := by decide +kernel
theorem dX5_sweepBad_50 : decode cX5_sweepBad 50 = .ok (.iconst 0, 1) := by decide +kernel
theorem dX5_sweepBad_51 : decode cX5_sweepBad 51 = .ok (.ireturn, 1) := by decide +kernel
abbrev cX5_sweptBy : ByteArray := prog_7_method_58_code
abbrev mX5_sweptBy : MethodName := { cls := "KinInTheHeapModel", name := "sweptBy", desc := "(I)I" }
theorem mwX5_sweptBy : MWV mX5_sweptBy (.code mX5_sweptBy cX5_sweptBy 4 (some .int)) "KinInTheHeapModel" 1 := ⟨w1287, w1286, w81, w103, w103, by decide +kernel⟩
theorem dX5_sweptBy_0 : decode cX5_sweptBy 0 = .ok (.iconst 0, 1) := by decide +kernel
theorem dX5_sweptBy_1 : decode cX5_sweptBy 1 = .ok (.istore_n 2, 1) := by decide +kernel
theorem dX5_sweptBy_2 : decode cX5_sweptBy 2 = .ok (.iconst 0, 1) := by decide +kernel
theorem dX5_sweptBy_3 : decode cX5_sweptBy 3 = .ok (.istore_n 3, 1) := by decide +kernel
theorem dX5_sweptBy_4 : decode cX5_sweptBy 4 = .ok (.iload_n 3, 1) := by decide +kernel
theorem dX5_sweptBy_5 : decode cX5_sweptBy 5 = .ok (.aload_n 0, 1) := by decide +kernel
theorem dX5_sweptBy_6 : decode cX5_sweptBy 6 = .ok (.getfield 63, 3) := by decide +kernel
theorem dX5_sweptBy_9 : decode cX5_sweptBy 9 = .ok (.iload_n 1, 1) := by decide +kernel
theorem dX5_sweptBy_10 : decode cX5_sweptBy 10 = .ok (.iaload, 1) := by decide +kernel
theorem dX5_sweptBy_11 : decode cX5_sweptBy 11 = .ok (.if_icmp .ge 27, 3) := by decide +kernel
theorem dX5_sweptBy_14 : decode cX5_sweptBy 14 = .ok (.iload_n 2, 1) := by decide +kernel
theorem dX5_sweptBy_15 : decode cX5_sweptBy 15 = .ok (.aload_n 0, 1) := by decide +kernel
theorem dX5_sweptBy_16 : decode cX5_sweptBy 16 = .ok (.aload_n 0, 1) := by decide +kernel
theorem dX5_sweptBy_17 : decode cX5_sweptBy 17 = .ok (.getfield 66, 3) := by decide +kernel
theorem dX5_sweptBy_20 : decode cX5_sweptBy 20 = .ok (.bipush 40, 2) := by decide +kernel
theorem dX5_sweptBy_22 : decode cX5_sweptBy 22 = .ok (.iload_n 1, 1) := by decide +kernel
theorem dX5_sweptBy_23 : decode cX5_sweptBy 23 = .ok (.imul, 1) := by decide +kernel
theorem dX5_sweptBy_24 : decode cX5_sweptBy 24 = .ok (.iload_n 3, 1) := by decide +kernel
theorem dX5_sweptBy_25 : decode cX5_sweptBy 25 = .ok (.iadd, 1) := by decide +kernel
theorem dX5_sweptBy_26 : decode cX5_sweptBy 26 = .ok (.iaload, 1) := by decide +kernel
theorem dX5_sweptBy_27 : decode cX5_sweptBy 27 = .ok (.invokevirtual 282, 3) := by decide +kernel
theorem dX5_sweptBy_30 : decode cX5_sweptBy 30 = .ok (.iadd, 1) := by decide +kernel
theorem dX5_sweptBy_31 : decode cX5_sweptBy 31 = .ok (.istore_n 2, 1) := by decide +kernel
theorem dX5_sweptBy_32 : decode cX5_sweptBy 32 = .ok (.iinc 3 1, 3) := by decide +kernel
theorem dX5_sweptBy_35 : decode cX5_sweptBy 35 = .ok (.goto (-31), 3) := by decide +kernel
theorem dX5_sweptBy_38 : decode cX5_sweptBy 38 = .ok (.iload_n 2, 1) := by decide +kernel
theorem dX5_sweptBy_39 : decode cX5_sweptBy 39 = .ok (.ireturn, 1) := by decide +kernel
abbrev cX5_sweep : ByteArray := prog_7_method_59_code
abbrev mX5_sweep : MethodName := { cls := "KinInTheHeapModel", name := "sweep", desc := "(II)I" }
theorem mwX5_sweep : MWV mX5_sweep (.code mX5_sweep cX5_sweep 6 (some .int)) "KinInTheHeapModel" 2 := ⟨w1270, w1268, w1269, w103, w103, by decide +kernel⟩
theorem dX5_sweep_0 : decode cX5_sweep 0 = .ok (.iload_n 1, 1) := by decide +kernel
theorem dX5_sweep_1 : decode cX5_sweep 1 = .ok (.invokestatic 294, 3) := by decide +kernel
theorem dX5_sweep_4 : decode cX5_sweep 4 = .ok (.ifCond .eq 40, 3) := by decide +kernel
theorem dX5_sweep_7 : decode cX5_sweep 7 = .ok (.iload_n 2, 1) := by decide +kernel
theorem dX5_sweep_8 : decode cX5_sweep 8 = .ok (.i2l, 1) := by decide +kernel
theorem dX5_sweep_9 : decode cX5_sweep 9 = .ok (.lconst 0, 1) := by decide +kernel
theorem dX5_sweep_10 : decode cX5_sweep 10 = .ok (.ldc2_w 297, 3) := by decide +kernel
theorem dX5_sweep_13 : decode cX5_sweep 13 = .ok (.invokestatic 79, 3) := by decide +kernel
theorem dX5_sweep_16 : decode cX5_sweep 16 = .ok (.ifCond .ne 31, 3) := by decide +kernel
theorem dX5_sweep_19 : decode cX5_sweep 19 = .ok (.iload_n 2, 1) := by decide +kernel
theorem dX5_sweep_20 : decode cX5_sweep 20 = .ok (.i2l, 1) := by decide +kernel
theorem dX5_sweep_21 : decode cX5_sweep 21 = .ok (.ldc2_w 122, 3) := by decide +kernel
theorem dX5_sweep_24 : decode cX5_sweep 24 = .ok (.ldc2_w 299, 3) := by decide +kernel
theorem dX5_sweep_27 : decode cX5_sweep 27 = .ok (.invokestatic 79, 3) := by decide +kernel
theorem dX5_sweep_30 : decode cX5_sweep 30 = .ok (.ifCond .eq 14, 3) := by decide +kernel
theorem dX5_sweep_33 : decode cX5_sweep 33 = .ok (.aload_n 0, 1) := by decide +kernel
theorem dX5_sweep_34 : decode cX5_sweep 34 = .ok (.iload_n 2, 1) := by decide +kernel
theorem dX5_sweep_35 : decode cX5_sweep 35 = .ok (.bipush 10, 2) := by decide +kernel
theorem dX5_sweep_37 : decode cX5_sweep 37 = .ok (.isub, 1) := by decide +kernel
theorem dX5_sweep_38 : decode cX5_sweep 38 = .ok (.invokevirtual 89, 3) := by decide +kernel
theorem dX5_sweep_41 : decode cX5_sweep 41 = .ok (.ifCond .ne 6, 3) := by decide +kernel
theorem dX5_sweep_44 : decode cX5_sweep 44 = .ok (.bipush (-2), 2) := by decide +kernel
theorem dX5_sweep_46 : decode cX5_sweep 46 = .ok (.ireturn, 1) := by decide +kernel
theorem dX5_sweep_47 : decode cX5_sweep 47 = .ok (.aload_n 0, 1) := by decide +kernel
theorem dX5_sweep_48 : decode cX5_sweep 48 = .ok (.iload_n 1, 1) := by decide +kernel
theorem dX5_sweep_49 : decode cX5_sweep 49 = .ok (.invokevirtual 301, 3) := by decide +kernel
theorem dX5_sweep_52 : decode cX5_sweep 52 = .ok (.istore_n 3, 1) := by decide +kernel
theorem dX5_sweep_53 : decode cX5_sweep 53 = .ok (.iload_n 3, 1) := by decide +kernel
theorem dX5_sweep_54 : decode cX5_sweep 54 = .ok (.ifCond .eq 5, 3) := by decide +kernel
theorem dX5_sweep_57 : decode cX5_sweep 57 = .ok (.iload_n 3, 1) := by decide +kernel
theorem dX5_sweep_58 : decode cX5_sweep 58 = .ok (.ireturn, 1) := by decide +kernel
theorem dX5_sweep_59 : decode cX5_sweep 59 = .ok (.aload_n 0, 1) := by decide +kernel
theorem dX5_sweep_60 : decode cX5_sweep 60 = .ok (.invokevirtual 304, 3) := by decide +kernel
theorem dX5_sweep_63 : decode cX5_sweep 63 = .ok (.aload_n 0, 1) := by decide +kernel
theorem dX5_sweep_64 : decode cX5_sweep 64 = .ok (.iload_n 1, 1) := by decide +kernel
theorem dX5_sweep_65 : decode cX5_sweep 65 = .ok (.invokevirtual 307, 3) := by decide +kernel
theorem dX5_sweep_68 : decode cX5_sweep 68 = .ok (.istore 4, 2) := by decide +kernel
theorem dX5_sweep_70 : decode cX5_sweep 70 = .ok (.iload_n 2, 1) := by decide +kernel
theorem dX5_sweep_71 : decode cX5_sweep 71 = .ok (.ifCond .ne 8, 3) := by decide +kernel
theorem dX5_sweep_74 : decode cX5_sweep 74 = .ok (.iload 4, 2) := by decide +kernel
theorem dX5_sweep_76 : decode cX5_sweep 76 = .ok (.goto 48, 3) := by decide +kernel
theorem dX5_sweep_79 : decode cX5_sweep 79 = .ok (.iload_n 2, 1) := by decide +kernel
theorem dX5_sweep_80 : decode cX5_sweep 80 = .ok (.iconst 1, 1) := by decide +kernel
theorem dX5_sweep_81 : decode cX5_sweep 81 = .ok (.if_icmp .ne 10, 3) := by decide +kernel
theorem dX5_sweep_84 : decode cX5_sweep 84 = .ok (.aload_n 0, 1) := by decide +kernel
theorem dX5_sweep_85 : decode cX5_sweep 85 = .ok (.invokevirtual 310, 3) := by decide +kernel
theorem dX5_sweep_88 : decode cX5_sweep 88 = .ok (.goto 36, 3) := by decide +kernel
theorem dX5_sweep_91 : decode cX5_sweep 91 = .ok (.iload_n 2, 1) := by decide +kernel
theorem dX5_sweep_92 : decode cX5_sweep 92 = .ok (.iconst 2, 1) := by decide +kernel
theorem dX5_sweep_93 : decode cX5_sweep 93 = .ok (.if_icmp .ne 10, 3) := by decide +kernel
theorem dX5_sweep_96 : decode cX5_sweep 96 = .ok (.aload_n 0, 1) := by decide +kernel
theorem dX5_sweep_97 : decode cX5_sweep 97 = .ok (.invokevirtual 313, 3) := by decide +kernel
theorem dX5_sweep_100 : decode cX5_sweep 100 = .ok (.goto 24, 3) := by decide +kernel
theorem dX5_sweep_103 : decode cX5_sweep 103 = .ok (.iload_n 2, 1) := by decide +kernel
theorem dX5_sweep_104 : decode cX5_sweep 104 = .ok (.iconst 3, 1) := by decide +kernel
theorem dX5_sweep_105 : decode cX5_sweep 105 = .ok (.if_icmp .ne 10, 3) := by decide +kernel
theorem dX5_sweep_108 : decode cX5_sweep 108 = .ok (.aload_n 0, 1) := by decide +kernel
theorem dX5_sweep_109 : decode cX5_sweep 109 = .ok (.invokevirtual 316, 3) := by decide +kernel
theorem dX5_sweep_112 : decode cX5_sweep 112 = .ok (.goto 12, 3) := by decide +kernel
theorem dX5_sweep_115 : decode cX5_sweep 115 = .ok (.aload_n 0, 1) := by decide +kernel
theorem dX5_sweep_116 : decode cX5_sweep 116 = .ok (.getfield 35, 3) := by decide +kernel
theorem dX5_sweep_119 : decode cX5_sweep 119 = .ok (.iload_n 2, 1) := by decide +kernel
theorem dX5_sweep_120 : decode cX5_sweep 120 = .ok (.bipush 10, 2) := by decide +kernel
theorem dX5_sweep_122 : decode cX5_sweep 122 = .ok (.isub, 1) := by decide +kernel
theorem dX5_sweep_123 : decode cX5_sweep 123 = .ok (.iaload, 1) := by decide +kernel
theorem dX5_sweep_124 : decode cX5_sweep 124 = .ok (.istore 5, 2) := by decide +kernel
theorem dX5_sweep_126 : decode cX5_sweep 126 = .ok (.aload_n 0, 1) := by decide +kernel
theorem dX5_sweep_127 : decode cX5_sweep 127 = .ok (.invokevirtual 319, 3) := by decide +kernel
theorem dX5_sweep_130 : decode cX5_sweep 130 = .ok (.iload 5, 2) := by decide +kernel
theorem dX5_sweep_132 : decode cX5_sweep 132 = .ok (.ireturn, 1) := by decide +kernel
