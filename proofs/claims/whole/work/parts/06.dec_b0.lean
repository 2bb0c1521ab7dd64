abbrev cX4_init : ByteArray := prog_1_method_1_code
abbrev mX4_init : MethodName := { cls := "KinInTheHeap", name := "<init>", desc := "()V" }
theorem dX4_init_0 : decode cX4_init 0 = .ok (.aload_n 0, 1) := by decide +kernel
theorem dX4_init_1 : decode cX4_init 1 = .ok (.invokespecial 3, 3) := by decide +kernel
theorem dX4_init_4 : decode cX4_init 4 = .ok (.aload_n 0, 1) := by decide +kernel
theorem dX4_init_5 : decode cX4_init 5 = .ok (.bipush 6, 2) := by decide +kernel
theorem dX4_init_7 : decode cX4_init 7 = .ok (.anewarray 9, 3) := by decide +kernel
theorem dX4_init_10 : decode cX4_init 10 = .ok (.putfield 11, 3) := by decide +kernel
theorem dX4_init_13 : decode cX4_init 13 = .ok (.aload_n 0, 1) := by decide +kernel
theorem dX4_init_14 : decode cX4_init 14 = .ok (.iconst 4, 1) := by decide +kernel
theorem dX4_init_15 : decode cX4_init 15 = .ok (.anewarray 15, 3) := by decide +kernel
theorem dX4_init_18 : decode cX4_init 18 = .ok (.putfield 17, 3) := by decide +kernel
theorem dX4_init_21 : decode cX4_init 21 = .ok (.aload_n 0, 1) := by decide +kernel
theorem dX4_init_22 : decode cX4_init 22 = .ok (.new 21, 3) := by decide +kernel
theorem dX4_init_25 : decode cX4_init 25 = .ok (.dup, 1) := by decide +kernel
theorem dX4_init_26 : decode cX4_init 26 = .ok (.invokespecial 23, 3) := by decide +kernel
theorem dX4_init_29 : decode cX4_init 29 = .ok (.putfield 24, 3) := by decide +kernel
theorem dX4_init_32 : decode cX4_init 32 = .ok (.iconst 0, 1) := by decide +kernel
theorem dX4_init_33 : decode cX4_init 33 = .ok (.istore_n 1, 1) := by decide +kernel
theorem dX4_init_34 : decode cX4_init 34 = .ok (.iload_n 1, 1) := by decide +kernel
theorem dX4_init_35 : decode cX4_init 35 = .ok (.bipush 6, 2) := by decide +kernel
theorem dX4_init_37 : decode cX4_init 37 = .ok (.if_icmp .ge 22, 3) := by decide +kernel
theorem dX4_init_40 : decode cX4_init 40 = .ok (.aload_n 0, 1) := by decide +kernel
theorem dX4_init_41 : decode cX4_init 41 = .ok (.getfield 11, 3) := by decide +kernel
theorem dX4_init_44 : decode cX4_init 44 = .ok (.iload_n 1, 1) := by decide +kernel
theorem dX4_init_45 : decode cX4_init 45 = .ok (.new 9, 3) := by decide +kernel
theorem dX4_init_48 : decode cX4_init 48 = .ok (.dup, 1) := by decide +kernel
theorem dX4_init_49 : decode cX4_init 49 = .ok (.invokespecial 28, 3) := by decide +kernel
theorem dX4_init_52 : decode cX4_init 52 = .ok (.aastore, 1) := by decide +kernel
theorem dX4_init_53 : decode cX4_init 53 = .ok (.iinc 1 1, 3) := by decide +kernel
theorem dX4_init_56 : decode cX4_init 56 = .ok (.goto (-22), 3) := by decide +kernel
theorem dX4_init_59 : decode cX4_init 59 = .ok (.iconst 0, 1) := by decide +kernel
theorem dX4_init_60 : decode cX4_init 60 = .ok (.istore_n 1, 1) := by decide +kernel
theorem dX4_init_61 : decode cX4_init 61 = .ok (.iload_n 1, 1) := by decide +kernel
theorem dX4_init_62 : decode cX4_init 62 = .ok (.iconst 4, 1) := by decide +kernel
theorem dX4_init_63 : decode cX4_init 63 = .ok (.if_icmp .ge 22, 3) := by decide +kernel
theorem dX4_init_66 : decode cX4_init 66 = .ok (.aload_n 0, 1) := by decide +kernel
theorem dX4_init_67 : decode cX4_init 67 = .ok (.getfield 17, 3) := by decide +kernel
theorem dX4_init_70 : decode cX4_init 70 = .ok (.iload_n 1, 1) := by decide +kernel
theorem dX4_init_71 : decode cX4_init 71 = .ok (.new 15, 3) := by decide +kernel
theorem dX4_init_74 : decode cX4_init 74 = .ok (.dup, 1) := by decide +kernel
theorem dX4_init_75 : decode cX4_init 75 = .ok (.invokespecial 29, 3) := by decide +kernel
theorem dX4_init_78 : decode cX4_init 78 = .ok (.aastore, 1) := by decide +kernel
theorem dX4_init_79 : decode cX4_init 79 = .ok (.iinc 1 1, 3) := by decide +kernel
theorem dX4_init_82 : decode cX4_init 82 = .ok (.goto (-21), 3) := by decide +kernel
theorem dX4_init_85 : decode cX4_init 85 = .ok (.aload_n 0, 1) := by decide +kernel
theorem dX4_init_86 : decode cX4_init 86 = .ok (.getfield 11, 3) := by decide +kernel
theorem dX4_init_89 : decode cX4_init 89 = .ok (.iconst 0, 1) := by decide +kernel
theorem dX4_init_90 : decode cX4_init 90 = .ok (.aaload, 1) := by decide +kernel
theorem dX4_init_91 : decode cX4_init 91 = .ok (.invokevirtual 30, 3) := by decide +kernel
theorem dX4_init_94 : decode cX4_init 94 = .ok (.aload_n 0, 1) := by decide +kernel
theorem dX4_init_95 : decode cX4_init 95 = .ok (.iconst 1, 1) := by decide +kernel
theorem dX4_init_96 : decode cX4_init 96 = .ok (.putfield 33, 3) := by decide +kernel
theorem dX4_init_99 : decode cX4_init 99 = .ok (.aload_n 0, 1) := by decide +kernel
theorem dX4_init_100 : decode cX4_init 100 = .ok (.new 37, 3) := by decide +kernel
theorem dX4_init_103 : decode cX4_init 103 = .ok (.dup, 1) := by decide +kernel
theorem dX4_init_104 : decode cX4_init 104 = .ok (.aload_n 0, 1) := by decide +kernel
theorem dX4_init_105 : decode cX4_init 105 = .ok (.getfield 11, 3) := by decide +kernel
theorem dX4_init_108 : decode cX4_init 108 = .ok (.invokespecial 39, 3) := by decide +kernel
theorem dX4_init_111 : decode cX4_init 111 = .ok (.putfield 42, 3) := by decide +kernel
theorem dX4_init_114 : decode cX4_init 114 = .ok (.aload_n 0, 1) := by decide +kernel
theorem dX4_init_115 : decode cX4_init 115 = .ok (.new 37, 3) := by decide +kernel
theorem dX4_init_118 : decode cX4_init 118 = .ok (.dup, 1) := by decide +kernel
theorem dX4_init_119 : decode cX4_init 119 = .ok (.aload_n 0, 1) := by decide +kernel
theorem dX4_init_120 : decode cX4_init 120 = .ok (.getfield 11, 3) := by decide +kernel
theorem dX4_init_123 : decode cX4_init 123 = .ok (.invokespecial 39, 3) := by decide +kernel
theorem dX4_init_126 : decode cX4_init 126 = .ok (.putfield 46, 3) := by decide +kernel
theorem dX4_init_129 : decode cX4_init 129 = .ok (.aload_n 0, 1) := by decide +kernel
theorem dX4_init_130 : decode cX4_init 130 = .ok (.new 37, 3) := by decide +kernel
theorem dX4_init_133 : decode cX4_init 133 = .ok (.dup, 1) := by decide +kernel
theorem dX4_init_134 : decode cX4_init 134 = .ok (.aload_n 0, 1) := by decide +kernel
theorem dX4_init_135 : decode cX4_init 135 = .ok (.getfield 11, 3) := by decide +kernel
theorem dX4_init_138 : decode cX4_init 138 = .ok (.invokespecial 39, 3) := by decide +kernel
theorem dX4_init_141 : decode cX4_init 141 = .ok (.putfield 49, 3) := by decide +kernel
theorem dX4_init_144 : decode cX4_init 144 = .ok (.aload_n 0, 1) := by decide +kernel
theorem dX4_init_145 : decode cX4_init 145 = .ok (.new 37, 3) := by decide +kernel
theorem dX4_init_148 : decode cX4_init 148 = .ok (.dup, 1) := by decide +kernel
theorem dX4_init_149 : decode cX4_init 149 = .ok (.aload_n 0, 1) := by decide +kernel
theorem dX4_init_150 : decode cX4_init 150 = .ok (.getfield 11, 3) := by decide +kernel
theorem dX4_init_153 : decode cX4_init 153 = .ok (.invokespecial 39, 3) := by decide +kernel
theorem dX4_init_156 : decode cX4_init 156 = .ok (.putfield 52, 3) := by decide +kernel
theorem dX4_init_159 : decode cX4_init 159 = .ok (.return_, 1) := by decide +kernel
abbrev cX4_set : ByteArray := prog_1_method_2_code
abbrev mX4_set : MethodName := { cls := "KinInTheHeap", name := "set", desc := "(III)I" }
theorem mwX4_set : MWV mX4_set (.code mX4_set cX4_set 4 (some .int)) "KinInTheHeap" 3 := ⟨w295, w293, w294, w98, w98, by decide +kernel⟩
theorem dX4_set_0 : decode cX4_set 0 = .ok (.iload_n 1, 1) := by decide +kernel
theorem dX4_set_1 : decode cX4_set 1 = .ok (.tableswitch 68 0 4 #[35, 41, 47, 54, 61], 35) := by decide +kernel
theorem dX4_set_36 : decode cX4_set 36 = .ok (.aload_n 0, 1) := by decide +kernel
theorem dX4_set_37 : decode cX4_set 37 = .ok (.iload_n 3, 1) := by decide +kernel
theorem dX4_set_38 : decode cX4_set 38 = .ok (.invokevirtual 55, 3) := by decide +kernel
theorem dX4_set_41 : decode cX4_set 41 = .ok (.ireturn, 1) := by decide +kernel
theorem dX4_set_42 : decode cX4_set 42 = .ok (.aload_n 0, 1) := by decide +kernel
theorem dX4_set_43 : decode cX4_set 43 = .ok (.iload_n 3, 1) := by decide +kernel
theorem dX4_set_44 : decode cX4_set 44 = .ok (.invokevirtual 59, 3) := by decide +kernel
theorem dX4_set_47 : decode cX4_set 47 = .ok (.ireturn, 1) := by decide +kernel
theorem dX4_set_48 : decode cX4_set 48 = .ok (.aload_n 0, 1) := by decide +kernel
theorem dX4_set_49 : decode cX4_set 49 = .ok (.iload_n 2, 1) := by decide +kernel
theorem dX4_set_50 : decode cX4_set 50 = .ok (.iload_n 3, 1) := by decide +kernel
theorem dX4_set_51 : decode cX4_set 51 = .ok (.invokevirtual 62, 3) := by decide +kernel
theorem dX4_set_54 : decode cX4_set 54 = .ok (.ireturn, 1) := by decide +kernel
theorem dX4_set_55 : decode cX4_set 55 = .ok (.aload_n 0, 1) := by decide +kernel
theorem dX4_set_56 : decode cX4_set 56 = .ok (.iload_n 2, 1) := by decide +kernel
theorem dX4_set_57 : decode cX4_set 57 = .ok (.iload_n 3, 1) := by decide +kernel
theorem dX4_set_58 : decode cX4_set 58 = .ok (.invokevirtual 66, 3) := by decide +kernel
theorem dX4_set_61 : decode cX4_set 61 = .ok (.ireturn, 1) := by decide +kernel
theorem dX4_set_62 : decode cX4_set 62 = .ok (.aload_n 0, 1) := by decide +kernel
theorem dX4_set_63 : decode cX4_set 63 = .ok (.iload_n 2, 1) := by decide +kernel
theorem dX4_set_64 : decode cX4_set 64 = .ok (.iload_n 3, 1) := by decide +kernel
theorem dX4_set_65 : decode cX4_set 65 = .ok (.invokevirtual 69, 3) := by decide +kernel
theorem dX4_set_68 : decode cX4_set 68 = .ok (.ireturn, 1) := by decide +kernel
theorem dX4_set_69 : decode cX4_set 69 = .ok (.sipush (-1000), 3) := by decide +kernel
theorem dX4_set_72 : decode cX4_set 72 = .ok (.ireturn, 1) := by decide +kernel
abbrev cX4_dust : ByteArray := prog_1_method_3_code
abbrev mX4_dust : MethodName := { cls := "KinInTheHeap", name := "dust", desc := "(III)I" }
theorem mwX4_dust : MWV mX4_dust (.code mX4_dust cX4_dust 4 (some .int)) "KinInTheHeap" 3 := ⟨w335, w333, w334, w98, w98, by decide +kernel⟩
theorem dX4_dust_0 : decode cX4_dust 0 = .ok (.iload_n 1, 1) := by decide +kernel
theorem dX4_dust_1 : decode cX4_dust 1 = .ok (.iload_n 2, 1) := by decide +kernel
theorem dX4_dust_2 : decode cX4_dust 2 = .ok (.iload_n 3, 1) := by decide +kernel
theorem dX4_dust_3 : decode cX4_dust 3 = .ok (.invokestatic 72, 3) := by decide +kernel
theorem dX4_dust_6 : decode cX4_dust 6 = .ok (.ifCond .ne 6, 3) := by decide +kernel
theorem dX4_dust_9 : decode cX4_dust 9 = .ok (.bipush (-2), 2) := by decide +kernel
theorem dX4_dust_11 : decode cX4_dust 11 = .ok (.ireturn, 1) := by decide +kernel
theorem dX4_dust_12 : decode cX4_dust 12 = .ok (.aload_n 0, 1) := by decide +kernel
theorem dX4_dust_13 : decode cX4_dust 13 = .ok (.getfield 42, 3) := by decide +kernel
theorem dX4_dust_16 : decode cX4_dust 16 = .ok (.iload_n 1, 1) := by decide +kernel
theorem dX4_dust_17 : decode cX4_dust 17 = .ok (.iload_n 2, 1) := by decide +kernel
theorem dX4_dust_18 : decode cX4_dust 18 = .ok (.iload_n 3, 1) := by decide +kernel
theorem dX4_dust_19 : decode cX4_dust 19 = .ok (.invokevirtual 76, 3) := by decide +kernel
theorem dX4_dust_22 : decode cX4_dust 22 = .ok (.ifCond .eq 15, 3) := by decide +kernel
theorem dX4_dust_25 : decode cX4_dust 25 = .ok (.aload_n 0, 1) := by decide +kernel
theorem dX4_dust_26 : decode cX4_dust 26 = .ok (.getfield 42, 3) := by decide +kernel
theorem dX4_dust_29 : decode cX4_dust 29 = .ok (.getfield 79, 3) := by decide +kernel
theorem dX4_dust_32 : decode cX4_dust 32 = .ok (.iconst 1, 1) := by decide +kernel
theorem dX4_dust_33 : decode cX4_dust 33 = .ok (.isub, 1) := by decide +kernel
theorem dX4_dust_34 : decode cX4_dust 34 = .ok (.goto 5, 3) := by decide +kernel
theorem dX4_dust_37 : decode cX4_dust 37 = .ok (.bipush (-4), 2) := by decide +kernel
theorem dX4_dust_39 : decode cX4_dust 39 = .ok (.ireturn, 1) := by decide +kernel
abbrev cX4_told : ByteArray := prog_1_method_4_code
abbrev mX4_told : MethodName := { cls := "KinInTheHeap", name := "told", desc := "(II)I" }
theorem mwX4_told : MWV mX4_told (.code mX4_told cX4_told 3 (some .int)) "KinInTheHeap" 2 := ⟨w346, w344, w345, w98, w98, by decide +kernel⟩
theorem dX4_told_0 : decode cX4_told 0 = .ok (.iload_n 2, 1) := by decide +kernel
theorem dX4_told_1 : decode cX4_told 1 = .ok (.ifCond .ne 11, 3) := by decide +kernel
theorem dX4_told_4 : decode cX4_told 4 = .ok (.aload_n 0, 1) := by decide +kernel
theorem dX4_told_5 : decode cX4_told 5 = .ok (.getfield 42, 3) := by decide +kernel
theorem dX4_told_8 : decode cX4_told 8 = .ok (.getfield 82, 3) := by decide +kernel
theorem dX4_told_11 : decode cX4_told 11 = .ok (.ireturn, 1) := by decide +kernel
theorem dX4_told_12 : decode cX4_told 12 = .ok (.iload_n 2, 1) := by decide +kernel
theorem dX4_told_13 : decode cX4_told 13 = .ok (.iconst 1, 1) := by decide +kernel
theorem dX4_told_14 : decode cX4_told 14 = .ok (.if_icmp .ne 11, 3) := by decide +kernel
theorem dX4_told_17 : decode cX4_told 17 = .ok (.aload_n 0, 1) := by decide +kernel
theorem dX4_told_18 : decode cX4_told 18 = .ok (.getfield 42, 3) := by decide +kernel
theorem dX4_told_21 : decode cX4_told 21 = .ok (.getfield 85, 3) := by decide +kernel
theorem dX4_told_24 : decode cX4_told 24 = .ok (.ireturn, 1) := by decide +kernel
theorem dX4_told_25 : decode cX4_told 25 = .ok (.iload_n 2, 1) := by decide +kernel
theorem dX4_told_26 : decode cX4_told 26 = .ok (.iconst 2, 1) := by decide +kernel
theorem dX4_told_27 : decode cX4_told 27 = .ok (.if_icmp .eq 9, 3) := by decide +kernel
theorem dX4_told_30 : decode cX4_told 30 = .ok (.iload_n 2, 1) := by decide +kernel
theorem dX4_told_31 : decode cX4_told 31 = .ok (.bipush 10, 2) := by decide +kernel
theorem dX4_told_33 : decode cX4_told 33 = .ok (.if_icmp .ne 10, 3) := by decide +kernel
theorem dX4_told_36 : decode cX4_told 36 = .ok (.aload_n 0, 1) := by decide +kernel
theorem dX4_told_37 : decode cX4_told 37 = .ok (.iload_n 1, 1) := by decide +kernel
theorem dX4_told_38 : decode cX4_told 38 = .ok (.iload_n 2, 1) := by decide +kernel
theorem dX4_told_39 : decode cX4_told 39 = .ok (.invokevirtual 88, 3) := by decide +kernel
theorem dX4_told_42 : decode cX4_told 42 = .ok (.ireturn, 1) := by decide +kernel
theorem dX4_told_43 : decode cX4_told 43 = .ok (.iload_n 2, 1) := by decide +kernel
theorem dX4_told_44 : decode cX4_told 44 = .ok (.iconst 3, 1) := by decide +kernel
theorem dX4_told_45 : decode cX4_told 45 = .ok (.if_icmp .lt 20, 3) := by decide +kernel
theorem dX4_told_48 : decode cX4_told 48 = .ok (.iload_n 2, 1) := by decide +kernel
theorem dX4_told_49 : decode cX4_told 49 = .ok (.bipush 10, 2) := by decide +kernel
theorem dX4_told_51 : decode cX4_told 51 = .ok (.if_icmp .gt 14, 3) := by decide +kernel
theorem dX4_told_54 : decode cX4_told 54 = .ok (.aload_n 0, 1) := by decide +kernel
theorem dX4_told_55 : decode cX4_told 55 = .ok (.getfield 42, 3) := by decide +kernel
theorem dX4_told_58 : decode cX4_told 58 = .ok (.iload_n 1, 1) := by decide +kernel
theorem dX4_told_59 : decode cX4_told 59 = .ok (.invokevirtual 91, 3) := by decide +kernel
theorem dX4_told_62 : decode cX4_told 62 = .ok (.ifCond .ne 7, 3) := by decide +kernel
theorem dX4_told_65 : decode cX4_told 65 = .ok (.sipush (-1000), 3) := by decide +kernel
theorem dX4_told_68 : decode cX4_told 68 = .ok (.ireturn, 1) := by decide +kernel
theorem dX4_told_69 : decode cX4_told 69 = .ok (.iload_n 2, 1) := by decide +kernel
theorem dX4_told_70 : decode cX4_told 70 = .ok (.bipush 7, 2) := by decide +kernel
theorem dX4_told_72 : decode cX4_told 72 = .ok (.if_icmp .ge 12, 3) := by decide +kernel
theorem dX4_told_75 : decode cX4_told 75 = .ok (.aload_n 0, 1) := by decide +kernel
theorem dX4_told_76 : decode cX4_told 76 = .ok (.iload_n 1, 1) := by decide +kernel
theorem dX4_told_77 : decode cX4_told 77 = .ok (.iload_n 2, 1) := by decide +kernel
theorem dX4_told_78 : decode cX4_told 78 = .ok (.invokevirtual 95, 3) := by decide +kernel
theorem dX4_told_81 : decode cX4_told 81 = .ok (.goto 9, 3) := by decide +kernel
theorem dX4_told_84 : decode cX4_told 84 = .ok (.aload_n 0, 1) := by decide +kernel
theorem dX4_told_85 : decode cX4_told 85 = .ok (.iload_n 1, 1) := by decide +kernel
theorem dX4_told_86 : decode cX4_told 86 = .ok (.iload_n 2, 1) := by decide +kernel
theorem dX4_told_87 : decode cX4_told 87 = .ok (.invokevirtual 98, 3) := by decide +kernel
theorem dX4_told_90 : decode cX4_told 90 = .ok (.ireturn, 1) := by decide +kernel
abbrev cX4_feed : ByteArray := prog_1_method_5_code
abbrev mX4_feed : MethodName := { cls := "KinInTheHeap", name := "feed", desc := "(I)I" }
theorem mwX4_feed : MWV mX4_feed (.code mX4_feed cX4_feed 2 (some .int)) "KinInTheHeap" 1 := ⟨w410, w408, w409, w98, w98, by decide +kernel⟩
theorem dX4_feed_0 : decode cX4_feed 0 = .ok (.iload_n 1, 1) := by decide +kernel
theorem dX4_feed_1 : decode cX4_feed 1 = .ok (.iconst 0, 1) := by decide +kernel
theorem dX4_feed_2 : decode cX4_feed 2 = .ok (.sipush 255, 3) := by decide +kernel
theorem dX4_feed_5 : decode cX4_feed 5 = .ok (.invokestatic 101, 3) := by decide +kernel
theorem dX4_feed_8 : decode cX4_feed 8 = .ok (.ifCond .ne 6, 3) := by decide +kernel
theorem dX4_feed_11 : decode cX4_feed 11 = .ok (.bipush (-2), 2) := by decide +kernel
theorem dX4_feed_13 : decode cX4_feed 13 = .ok (.ireturn, 1) := by decide +kernel
theorem dX4_feed_14 : decode cX4_feed 14 = .ok (.aload_n 0, 1) := by decide +kernel
theorem dX4_feed_15 : decode cX4_feed 15 = .ok (.getfield 24, 3) := by decide +kernel
theorem dX4_feed_18 : decode cX4_feed 18 = .ok (.iload_n 1, 1) := by decide +kernel
theorem dX4_feed_19 : decode cX4_feed 19 = .ok (.invokevirtual 104, 3) := by decide +kernel
theorem dX4_feed_22 : decode cX4_feed 22 = .ok (.ifCond .eq 13, 3) := by decide +kernel
theorem dX4_feed_25 : decode cX4_feed 25 = .ok (.aload_n 0, 1) := by decide +kernel
theorem dX4_feed_26 : decode cX4_feed 26 = .ok (.getfield 24, 3) := by decide +kernel
theorem dX4_feed_29 : decode cX4_feed 29 = .ok (.getfield 107, 3) := by decide +kernel
theorem dX4_feed_32 : decode cX4_feed 32 = .ok (.goto 5, 3) := by decide +kernel
theorem dX4_feed_35 : decode cX4_feed 35 = .ok (.bipush (-4), 2) := by decide +kernel
theorem dX4_feed_37 : decode cX4_feed 37 = .ok (.ireturn, 1) := by decide +kernel
abbrev cX4_text : ByteArray := prog_1_method_6_code
abbrev mX4_text : MethodName := { cls := "KinInTheHeap", name := "text", desc := "()I" }
theorem mwX4_text : MWV mX4_text (.code mX4_text cX4_text 2 (some .int)) "KinInTheHeap" 0 := ⟨w418, w416, w417, w98, w98, by decide +kernel⟩
theorem dX4_text_0 : decode cX4_text 0 = .ok (.aload_n 0, 1) := by decide +kernel
theorem dX4_text_1 : decode cX4_text 1 = .ok (.getfield 33, 3) := by decide +kernel
theorem dX4_text_4 : decode cX4_text 4 = .ok (.bipush 6, 2) := by decide +kernel
theorem dX4_text_6 : decode cX4_text 6 = .ok (.if_icmp .lt 6, 3) := by decide +kernel
theorem dX4_text_9 : decode cX4_text 9 = .ok (.bipush (-4), 2) := by decide +kernel
theorem dX4_text_11 : decode cX4_text 11 = .ok (.ireturn, 1) := by decide +kernel
theorem dX4_text_12 : decode cX4_text 12 = .ok (.aload_n 0, 1) := by decide +kernel
theorem dX4_text_13 : decode cX4_text 13 = .ok (.getfield 24, 3) := by decide +kernel
theorem dX4_text_16 : decode cX4_text 16 = .ok (.aload_n 0, 1) := by decide +kernel
theorem dX4_text_17 : decode cX4_text 17 = .ok (.getfield 11, 3) := by decide +kernel
theorem dX4_text_20 : decode cX4_text 20 = .ok (.aload_n 0, 1) := by decide +kernel
theorem dX4_text_21 : decode cX4_text 21 = .ok (.getfield 33, 3) := by decide +kernel
theorem dX4_text_24 : decode cX4_text 24 = .ok (.aaload, 1) := by decide +kernel
theorem dX4_text_25 : decode cX4_text 25 = .ok (.invokevirtual 110, 3) := by decide +kernel
theorem dX4_text_28 : decode cX4_text 28 = .ok (.istore_n 1, 1) := by decide +kernel
theorem dX4_text_29 : decode cX4_text 29 = .ok (.aload_n 0, 1) := by decide +kernel
theorem dX4_text_30 : decode cX4_text 30 = .ok (.getfield 24, 3) := by decide +kernel
theorem dX4_text_33 : decode cX4_text 33 = .ok (.invokevirtual 114, 3) := by decide +kernel
theorem dX4_text_36 : decode cX4_text 36 = .ok (.iload_n 1, 1) := by decide +kernel
theorem dX4_text_37 : decode cX4_text 37 = .ok (.iconst (-1), 1) := by decide +kernel
theorem dX4_text_38 : decode cX4_text 38 = .ok (.if_icmp .eq 8, 3) := by decide +kernel
theorem dX4_text_41 : decode cX4_text 41 = .ok (.bipush (-100), 2) := by decide +kernel
theorem dX4_text_43 : decode cX4_text 43 = .ok (.iload_n 1, 1) := by decide +kernel
theorem dX4_text_44 : decode cX4_text 44 = .ok (.isub, 1) := by decide +kernel
theorem dX4_text_45 : decode cX4_text 45 = .ok (.ireturn, 1) := by decide +kernel
theorem dX4_text_46 : decode cX4_text 46 = .ok (.aload_n 0, 1) := by decide +kernel
theorem dX4_text_47 : decode cX4_text 47 = .ok (.dup, 1) := by decide +kernel
theorem dX4_text_48 : decode cX4_text 48 = .ok (.getfield 33, 3) := by decide +kernel
theorem dX4_text_51 : decode cX4_text 51 = .ok (.iconst 1, 1) := by decide +kernel
theorem dX4_text_52 : decode cX4_text 52 = .ok (.iadd, 1) := by decide +kernel
theorem dX4_text_53 : decode cX4_text 53 = .ok (.putfield 33, 3) := by decide +kernel
theorem dX4_text_56 : decode cX4_text 56 = .ok (.aload_n 0, 1) := by decide +kernel
theorem dX4_text_57 : decode cX4_text 57 = .ok (.getfield 33, 3) := by decide +kernel
theorem dX4_text_60 : decode cX4_text 60 = .ok (.iconst 1, 1) := by decide +kernel
theorem dX4_text_61 : decode cX4_text 61 = .ok (.isub, 1) := by decide +kernel
theorem dX4_text_62 : decode cX4_text 62 = .ok (.ireturn, 1) := by decide +kernel
abbrev cX4_force : ByteArray := prog_1_method_7_code
abbrev mX4_force : MethodName := { cls := "KinInTheHeap", name := "force", desc := "(I)I" }
theorem mwX4_force : MWV mX4_force (.code mX4_force cX4_force 3 (some .int)) "KinInTheHeap" 1 := ⟨w631, w629, w630, w98, w98, by decide +kernel⟩
theorem dX4_force_0 : decode cX4_force 0 = .ok (.iload_n 1, 1) := by decide +kernel
theorem dX4_force_1 : decode cX4_force 1 = .ok (.iconst 0, 1) := by decide +kernel
theorem dX4_force_2 : decode cX4_force 2 = .ok (.aload_n 0, 1) := by decide +kernel
theorem dX4_force_3 : decode cX4_force 3 = .ok (.getfield 33, 3) := by decide +kernel
theorem dX4_force_6 : decode cX4_force 6 = .ok (.iconst 1, 1) := by decide +kernel
theorem dX4_force_7 : decode cX4_force 7 = .ok (.isub, 1) := by decide +kernel
theorem dX4_force_8 : decode cX4_force 8 = .ok (.invokestatic 101, 3) := by decide +kernel
theorem dX4_force_11 : decode cX4_force 11 = .ok (.ifCond .ne 6, 3) := by decide +kernel
theorem dX4_force_14 : decode cX4_force 14 = .ok (.bipush (-2), 2) := by decide +kernel
theorem dX4_force_16 : decode cX4_force 16 = .ok (.ireturn, 1) := by decide +kernel
theorem dX4_force_17 : decode cX4_force 17 = .ok (.aload_n 0, 1) := by decide +kernel
theorem dX4_force_18 : decode cX4_force 18 = .ok (.getfield 42, 3) := by decide +kernel
theorem dX4_force_21 : decode cX4_force 21 = .ok (.getfield 117, 3) := by decide +kernel
theorem dX4_force_24 : decode cX4_force 24 = .ok (.istore_n 2, 1) := by decide +kernel
theorem dX4_force_25 : decode cX4_force 25 = .ok (.aload_n 0, 1) := by decide +kernel
theorem dX4_force_26 : decode cX4_force 26 = .ok (.getfield 42, 3) := by decide +kernel
theorem dX4_force_29 : decode cX4_force 29 = .ok (.iload_n 1, 1) := by decide +kernel
theorem dX4_force_30 : decode cX4_force 30 = .ok (.putfield 117, 3) := by decide +kernel
theorem dX4_force_33 : decode cX4_force 33 = .ok (.iload_n 2, 1) := by decide +kernel
theorem dX4_force_34 : decode cX4_force 34 = .ok (.ireturn, 1) := by decide +kernel
abbrev cX4_stroke : ByteArray := prog_1_method_8_code
abbrev mX4_stroke : MethodName := { cls := "KinInTheHeap", name := "stroke", desc := "(I)I" }
theorem mwX4_stroke : MWV mX4_stroke (.code mX4_stroke cX4_stroke 2 (some .int)) "KinInTheHeap" 1 := ⟨w635, w633, w634, w98, w98, by decide +kernel⟩
theorem dX4_stroke_0 : decode cX4_stroke 0 = .ok (.iload_n 1, 1) := by decide +kernel
theorem dX4_stroke_1 : decode cX4_stroke 1 = .ok (.invokestatic 120, 3) := by decide +kernel
theorem dX4_stroke_4 : decode cX4_stroke 4 = .ok (.ifCond .eq 14, 3) := by decide +kernel
theorem dX4_stroke_7 : decode cX4_stroke 7 = .ok (.aload_n 0, 1) := by decide +kernel
theorem dX4_stroke_8 : decode cX4_stroke 8 = .ok (.getfield 42, 3) := by decide +kernel
theorem dX4_stroke_11 : decode cX4_stroke 11 = .ok (.iload_n 1, 1) := by decide +kernel
theorem dX4_stroke_12 : decode cX4_stroke 12 = .ok (.invokevirtual 123, 3) := by decide +kernel
theorem dX4_stroke_15 : decode cX4_stroke 15 = .ok (.goto 5, 3) := by decide +kernel
theorem dX4_stroke_18 : decode cX4_stroke 18 = .ok (.bipush (-2), 2) := by decide +kernel
theorem dX4_stroke_20 : decode cX4_stroke 20 = .ok (.ireturn, 1) := by decide +kernel
abbrev cX4_week : ByteArray := prog_1_method_9_code
abbrev mX4_week : MethodName := { cls := "KinInTheHeap", name := "week", desc := "()I" }
theorem mwX4_week : MWV mX4_week (.code mX4_week cX4_week 1 (some .int)) "KinInTheHeap" 0 := ⟨w663, w661, w662, w98, w98, by decide +kernel⟩
theorem dX4_week_0 : decode cX4_week 0 = .ok (.aload_n 0, 1) := by decide +kernel
theorem dX4_week_1 : decode cX4_week 1 = .ok (.getfield 42, 3) := by decide +kernel
theorem dX4_week_4 : decode cX4_week 4 = .ok (.getfield 82, 3) := by decide +kernel
theorem dX4_week_7 : decode cX4_week 7 = .ok (.sipush 999, 3) := by decide +kernel
theorem dX4_week_10 : decode cX4_week 10 = .ok (.if_icmp .lt 8, 3) := by decide +kernel
theorem dX4_week_13 : decode cX4_week 13 = .ok (.bipush (-3), 2) := by decide +kernel
theorem dX4_week_15 : decode cX4_week 15 = .ok (.goto 10, 3) := by decide +kernel
theorem dX4_week_18 : decode cX4_week 18 = .ok (.aload_n 0, 1) := by decide +kernel
theorem dX4_week_19 : decode cX4_week 19 = .ok (.getfield 42, 3) := by decide +kernel
theorem dX4_week_22 : decode cX4_week 22 = .ok (.invokevirtual 126, 3) := by decide +kernel
theorem dX4_week_25 : decode cX4_week 25 = .ok (.ireturn, 1) := by decide +kernel
abbrev cX4_sweep : ByteArray := prog_1_method_10_code
abbrev mX4_sweep : MethodName := { cls := "KinInTheHeap", name := "sweep", desc := "(II)I" }
theorem mwX4_sweep : MWV mX4_sweep (.code mX4_sweep cX4_sweep 5 (some .int)) "KinInTheHeap" 2 := ⟨w672, w670, w671, w98, w98, by decide +kernel⟩
theorem dX4_sweep_0 : decode cX4_sweep 0 = .ok (.iload_n 1, 1) := by decide +kernel
theorem dX4_sweep_1 : decode cX4_sweep 1 = .ok (.invokestatic 130, 3) := by decide +kernel
theorem dX4_sweep_4 : decode cX4_sweep 4 = .ok (.ifCond .eq 11, 3) := by decide +kernel
theorem dX4_sweep_7 : decode cX4_sweep 7 = .ok (.aload_n 0, 1) := by decide +kernel
theorem dX4_sweep_8 : decode cX4_sweep 8 = .ok (.iload_n 2, 1) := by decide +kernel
theorem dX4_sweep_9 : decode cX4_sweep 9 = .ok (.invokevirtual 133, 3) := by decide +kernel
theorem dX4_sweep_12 : decode cX4_sweep 12 = .ok (.ifCond .ne 6, 3) := by decide +kernel
theorem dX4_sweep_15 : decode cX4_sweep 15 = .ok (.bipush (-2), 2) := by decide +kernel
theorem dX4_sweep_17 : decode cX4_sweep 17 = .ok (.ireturn, 1) := by decide +kernel
theorem dX4_sweep_18 : decode cX4_sweep 18 = .ok (.aload_n 0, 1) := by decide +kernel
theorem dX4_sweep_19 : decode cX4_sweep 19 = .ok (.getfield 17, 3) := by decide +kernel
theorem dX4_sweep_22 : decode cX4_sweep 22 = .ok (.iload_n 1, 1) := by decide +kernel
theorem dX4_sweep_23 : decode cX4_sweep 23 = .ok (.aaload, 1) := by decide +kernel
theorem dX4_sweep_24 : decode cX4_sweep 24 = .ok (.invokestatic 136, 3) := by decide +kernel
theorem dX4_sweep_27 : decode cX4_sweep 27 = .ok (.istore_n 3, 1) := by decide +kernel
theorem dX4_sweep_28 : decode cX4_sweep 28 = .ok (.iload_n 3, 1) := by decide +kernel
theorem dX4_sweep_29 : decode cX4_sweep 29 = .ok (.ifCond .eq 5, 3) := by decide +kernel
theorem dX4_sweep_32 : decode cX4_sweep 32 = .ok (.iload_n 3, 1) := by decide +kernel
theorem dX4_sweep_33 : decode cX4_sweep 33 = .ok (.ireturn, 1) := by decide +kernel
theorem dX4_sweep_34 : decode cX4_sweep 34 = .ok (.aload_n 0, 1) := by decide +kernel
theorem dX4_sweep_35 : decode cX4_sweep 35 = .ok (.getfield 49, 3) := by decide +kernel
theorem dX4_sweep_38 : decode cX4_sweep 38 = .ok (.aload_n 0, 1) := by decide +kernel
theorem dX4_sweep_39 : decode cX4_sweep 39 = .ok (.getfield 42, 3) := by decide +kernel
theorem dX4_sweep_42 : decode cX4_sweep 42 = .ok (.invokevirtual 140, 3) := by decide +kernel
theorem dX4_sweep_45 : decode cX4_sweep 45 = .ok (.aload_n 0, 1) := by decide +kernel
theorem dX4_sweep_46 : decode cX4_sweep 46 = .ok (.getfield 49, 3) := by decide +kernel
theorem dX4_sweep_49 : decode cX4_sweep 49 = .ok (.aload_n 0, 1) := by decide +kernel
theorem dX4_sweep_50 : decode cX4_sweep 50 = .ok (.getfield 17, 3) := by decide +kernel
theorem dX4_sweep_53 : decode cX4_sweep 53 = .ok (.iload_n 1, 1) := by decide +kernel
theorem dX4_sweep_54 : decode cX4_sweep 54 = .ok (.aaload, 1) := by decide +kernel
theorem dX4_sweep_55 : decode cX4_sweep 55 = .ok (.invokestatic 144, 3) := by decide +kernel
theorem dX4_sweep_58 : decode cX4_sweep 58 = .ok (.istore 4, 2) := by decide +kernel
theorem dX4_sweep_60 : decode cX4_sweep 60 = .ok (.iload_n 2, 1) := by decide +kernel
theorem dX4_sweep_61 : decode cX4_sweep 61 = .ok (.ifCond .ne 6, 3) := by decide +kernel
theorem dX4_sweep_64 : decode cX4_sweep 64 = .ok (.iload 4, 2) := by decide +kernel
theorem dX4_sweep_66 : decode cX4_sweep 66 = .ok (.ireturn, 1) := by decide +kernel
theorem dX4_sweep_67 : decode cX4_sweep 67 = .ok (.iload_n 2, 1) := by decide +kernel
theorem dX4_sweep_68 : decode cX4_sweep 68 = .ok (.bipush 10, 2) := by decide +kernel
theorem dX4_sweep_70 : decode cX4_sweep 70 = .ok (.if_icmp .ge 14, 3) := by decide +kernel
theorem dX4_sweep_73 : decode cX4_sweep 73 = .ok (.aload_n 0, 1) := by decide +kernel
theorem dX4_sweep_74 : decode cX4_sweep 74 = .ok (.getfield 49, 3) := by decide +kernel
theorem dX4_sweep_77 : decode cX4_sweep 77 = .ok (.iload_n 2, 1) := by decide +kernel
theorem dX4_sweep_78 : decode cX4_sweep 78 = .ok (.invokestatic 148, 3) := by decide +kernel
theorem dX4_sweep_81 : decode cX4_sweep 81 = .ok (.goto 15, 3) := by decide +kernel
theorem dX4_sweep_84 : decode cX4_sweep 84 = .ok (.aload_n 0, 1) := by decide +kernel
theorem dX4_sweep_85 : decode cX4_sweep 85 = .ok (.getfield 49, 3) := by decide +kernel
theorem dX4_sweep_88 : decode cX4_sweep 88 = .ok (.getfield 152, 3) := by decide +kernel
theorem dX4_sweep_91 : decode cX4_sweep 91 = .ok (.iload_n 2, 1) := by decide +kernel
theorem dX4_sweep_92 : decode cX4_sweep 92 = .ok (.bipush 10, 2) := by decide +kernel
theorem dX4_sweep_94 : decode cX4_sweep 94 = .ok (.isub, 1) := by decide +kernel
theorem dX4_sweep_95 : decode cX4_sweep 95 = .ok (.iaload, 1) := by decide +kernel
theorem dX4_sweep_96 : decode cX4_sweep 96 = .ok (.ireturn, 1) := by decide +kernel
abbrev cX4_sweeps : ByteArray := prog_1_method_11_code
abbrev mX4_sweeps : MethodName := { cls := "KinInTheHeap", name := "sweeps", desc := "(I)I" }
theorem mwX4_sweeps : MWV mX4_sweeps (.code mX4_sweeps cX4_sweeps 3 (some .int)) "KinInTheHeap" 1 := ⟨w728, w726, w727, w98, w98, by decide +kernel⟩
theorem dX4_sweeps_0 : decode cX4_sweeps 0 = .ok (.iload_n 1, 1) := by decide +kernel
theorem dX4_sweeps_1 : decode cX4_sweeps 1 = .ok (.invokestatic 130, 3) := by decide +kernel
theorem dX4_sweeps_4 : decode cX4_sweeps 4 = .ok (.ifCond .ne 6, 3) := by decide +kernel
theorem dX4_sweeps_7 : decode cX4_sweeps 7 = .ok (.bipush (-2), 2) := by decide +kernel
theorem dX4_sweeps_9 : decode cX4_sweeps 9 = .ok (.ireturn, 1) := by decide +kernel
theorem dX4_sweeps_10 : decode cX4_sweeps 10 = .ok (.aload_n 0, 1) := by decide +kernel
theorem dX4_sweeps_11 : decode cX4_sweeps 11 = .ok (.getfield 17, 3) := by decide +kernel
theorem dX4_sweeps_14 : decode cX4_sweeps 14 = .ok (.iload_n 1, 1) := by decide +kernel
theorem dX4_sweeps_15 : decode cX4_sweeps 15 = .ok (.aaload, 1) := by decide +kernel
theorem dX4_sweeps_16 : decode cX4_sweeps 16 = .ok (.invokestatic 136, 3) := by decide +kernel
theorem dX4_sweeps_19 : decode cX4_sweeps 19 = .ok (.istore_n 2, 1) := by decide +kernel
theorem dX4_sweeps_20 : decode cX4_sweeps 20 = .ok (.iload_n 2, 1) := by decide +kernel
theorem dX4_sweeps_21 : decode cX4_sweeps 21 = .ok (.ifCond .eq 7, 3) := by decide +kernel
theorem dX4_sweeps_24 : decode cX4_sweeps 24 = .ok (.iload_n 2, 1) := by decide +kernel
theorem dX4_sweeps_25 : decode cX4_sweeps 25 = .ok (.goto 16, 3) := by decide +kernel
theorem dX4_sweeps_28 : decode cX4_sweeps 28 = .ok (.aload_n 0, 1) := by decide +kernel
theorem dX4_sweeps_29 : decode cX4_sweeps 29 = .ok (.getfield 42, 3) := by decide +kernel
theorem dX4_sweeps_32 : decode cX4_sweeps 32 = .ok (.aload_n 0, 1) := by decide +kernel
theorem dX4_sweeps_33 : decode cX4_sweeps 33 = .ok (.getfield 17, 3) := by decide +kernel
theorem dX4_sweeps_36 : decode cX4_sweeps 36 = .ok (.iload_n 1, 1) := by decide +kernel
theorem dX4_sweeps_37 : decode cX4_sweeps 37 = .ok (.aaload, 1) := by decide +kernel
theorem dX4_sweeps_38 : decode cX4_sweeps 38 = .ok (.invokestatic 144, 3) := by decide +kernel
theorem dX4_sweeps_41 : decode cX4_sweeps 41 = .ok (.ireturn, 1) := by decide +kernel
abbrev cX4_floor : ByteArray := prog_1_method_12_code
abbrev mX4_floor : MethodName := { cls := "KinInTheHeap", name := "floor", desc := "(I)I" }
theorem mwX4_floor : MWV mX4_floor (.code mX4_floor cX4_floor 2 (some .int)) "KinInTheHeap" 1 := ⟨w732, w730, w731, w98, w98, by decide +kernel⟩
theorem dX4_floor_0 : decode cX4_floor 0 = .ok (.iload_n 1, 1) := by decide +kernel
theorem dX4_floor_1 : decode cX4_floor 1 = .ok (.tableswitch 76 0 4 #[35, 43, 51, 59, 67], 35) := by decide +kernel
theorem dX4_floor_36 : decode cX4_floor 36 = .ok (.aload_n 0, 1) := by decide +kernel
theorem dX4_floor_37 : decode cX4_floor 37 = .ok (.getfield 42, 3) := by decide +kernel
theorem dX4_floor_40 : decode cX4_floor 40 = .ok (.invokevirtual 156, 3) := by decide +kernel
theorem dX4_floor_43 : decode cX4_floor 43 = .ok (.ireturn, 1) := by decide +kernel
theorem dX4_floor_44 : decode cX4_floor 44 = .ok (.aload_n 0, 1) := by decide +kernel
theorem dX4_floor_45 : decode cX4_floor 45 = .ok (.getfield 42, 3) := by decide +kernel
theorem dX4_floor_48 : decode cX4_floor 48 = .ok (.invokevirtual 159, 3) := by decide +kernel
theorem dX4_floor_51 : decode cX4_floor 51 = .ok (.ireturn, 1) := by decide +kernel
theorem dX4_floor_52 : decode cX4_floor 52 = .ok (.aload_n 0, 1) := by decide +kernel
theorem dX4_floor_53 : decode cX4_floor 53 = .ok (.getfield 42, 3) := by decide +kernel
theorem dX4_floor_56 : decode cX4_floor 56 = .ok (.invokevirtual 162, 3) := by decide +kernel
theorem dX4_floor_59 : decode cX4_floor 59 = .ok (.ireturn, 1) := by decide +kernel
theorem dX4_floor_60 : decode cX4_floor 60 = .ok (.aload_n 0, 1) := by decide +kernel
theorem dX4_floor_61 : decode cX4_floor 61 = .ok (.getfield 42, 3) := by decide +kernel
theorem dX4_floor_64 : decode cX4_floor 64 = .ok (.invokevirtual 165, 3) := by decide +kernel
theorem dX4_floor_67 : decode cX4_floor 67 = .ok (.ireturn, 1) := by decide +kernel
theorem dX4_floor_68 : decode cX4_floor 68 = .ok (.aload_n 0, 1) := by decide +kernel
theorem dX4_floor_69 : decode cX4_floor 69 = .ok (.getfield 42, 3) := by decide +kernel
theorem dX4_floor_72 : decode cX4_floor 72 = .ok (.iconst (-1), 1) := by decide +kernel
theorem dX4_floor_73 : decode cX4_floor 73 = .ok (.invokevirtual 168, 3) := by decide +kernel
theorem dX4_floor_76 : decode cX4_floor 76 = .ok (.ireturn, 1) := by decide +kernel
theorem dX4_floor_77 : decode cX4_floor 77 = .ok (.bipush (-2), 2) := by decide +kernel
theorem dX4_floor_79 : decode cX4_floor 79 = .ok (.ireturn, 1) := by decide +kernel
abbrev cX4_where : ByteArray := prog_1_method_13_code
abbrev mX4_where : MethodName := { cls := "KinInTheHeap", name := "where", desc := "(I)J" }
theorem mwX4_where : MWV mX4_where (.code mX4_where cX4_where 2 (some .long)) "KinInTheHeap" 1 := ⟨w740, w738, w739, w98, w98, by decide +kernel⟩
theorem dX4_where_0 : decode cX4_where 0 = .ok (.iload_n 1, 1) := by decide +kernel
theorem dX4_where_1 : decode cX4_where 1 = .ok (.ifCond .ne 11, 3) := by decide +kernel
theorem dX4_where_4 : decode cX4_where 4 = .ok (.aload_n 0, 1) := by decide +kernel
theorem dX4_where_5 : decode cX4_where 5 = .ok (.getfield 42, 3) := by decide +kernel
theorem dX4_where_8 : decode cX4_where 8 = .ok (.invokevirtual 171, 3) := by decide +kernel
theorem dX4_where_11 : decode cX4_where 11 = .ok (.lreturn, 1) := by decide +kernel
theorem dX4_where_12 : decode cX4_where 12 = .ok (.iload_n 1, 1) := by decide +kernel
theorem dX4_where_13 : decode cX4_where 13 = .ok (.iconst 1, 1) := by decide +kernel
theorem dX4_where_14 : decode cX4_where 14 = .ok (.if_icmp .ne 11, 3) := by decide +kernel
theorem dX4_where_17 : decode cX4_where 17 = .ok (.aload_n 0, 1) := by decide +kernel
theorem dX4_where_18 : decode cX4_where 18 = .ok (.getfield 42, 3) := by decide +kernel
theorem dX4_where_21 : decode cX4_where 21 = .ok (.getfield 175, 3) := by decide +kernel
theorem dX4_where_24 : decode cX4_where 24 = .ok (.lreturn, 1) := by decide +kernel
theorem dX4_where_25 : decode cX4_where 25 = .ok (.iload_n 1, 1) := by decide +kernel
theorem dX4_where_26 : decode cX4_where 26 = .ok (.bipush 10, 2) := by decide +kernel
theorem dX4_where_28 : decode cX4_where 28 = .ok (.if_icmp .lt 17, 3) := by decide +kernel
theorem dX4_where_31 : decode cX4_where 31 = .ok (.aload_n 0, 1) := by decide +kernel
theorem dX4_where_32 : decode cX4_where 32 = .ok (.getfield 42, 3) := by decide +kernel
theorem dX4_where_35 : decode cX4_where 35 = .ok (.iload_n 1, 1) := by decide +kernel
theorem dX4_where_36 : decode cX4_where 36 = .ok (.bipush 10, 2) := by decide +kernel
theorem dX4_where_38 : decode cX4_where 38 = .ok (.isub, 1) := by decide +kernel
theorem dX4_where_39 : decode cX4_where 39 = .ok (.invokevirtual 91, 3) := by decide +kernel
theorem dX4_where_42 : decode cX4_where 42 = .ok (.ifCond .ne 7, 3) := by decide +kernel
theorem dX4_where_45 : decode cX4_where 45 = .ok (.ldc2_w 179, 3) := by decide +kernel
theorem dX4_where_48 : decode cX4_where 48 = .ok (.lreturn, 1) := by decide +kernel
theorem dX4_where_49 : decode cX4_where 49 = .ok (.aload_n 0, 1) := by decide +kernel
theorem dX4_where_50 : decode cX4_where 50 = .ok (.iload_n 1, 1) := by decide +kernel
theorem dX4_where_51 : decode cX4_where 51 = .ok (.bipush 10, 2) := by decide +kernel
theorem dX4_where_53 : decode cX4_where 53 = .ok (.isub, 1) := by decide +kernel
theorem dX4_where_54 : decode cX4_where 54 = .ok (.invokevirtual 181, 3) := by decide +kernel
theorem dX4_where_57 : decode cX4_where 57 = .ok (.lreturn, 1) := by decide +kernel
abbrev cX4_gather : ByteArray := prog_1_method_14_code
abbrev mX4_gather : MethodName := { cls := "KinInTheHeap", name := "gather", desc := "(II)I" }
theorem mwX4_gather : MWV mX4_gather (.code mX4_gather cX4_gather 4 (some .int)) "KinInTheHeap" 2 := ⟨w754, w752, w753, w98, w98, by decide +kernel⟩
theorem dX4_gather_0 : decode cX4_gather 0 = .ok (.iload_n 1, 1) := by decide +kernel
theorem dX4_gather_1 : decode cX4_gather 1 = .ok (.iconst 1, 1) := by decide +kernel
theorem dX4_gather_2 : decode cX4_gather 2 = .ok (.iconst 1, 1) := by decide +kernel
theorem dX4_gather_3 : decode cX4_gather 3 = .ok (.aload_n 0, 1) := by decide +kernel
theorem dX4_gather_4 : decode cX4_gather 4 = .ok (.getfield 42, 3) := by decide +kernel
theorem dX4_gather_7 : decode cX4_gather 7 = .ok (.getfield 79, 3) := by decide +kernel
theorem dX4_gather_10 : decode cX4_gather 10 = .ok (.ishl, 1) := by decide +kernel
theorem dX4_gather_11 : decode cX4_gather 11 = .ok (.iconst 1, 1) := by decide +kernel
theorem dX4_gather_12 : decode cX4_gather 12 = .ok (.isub, 1) := by decide +kernel
theorem dX4_gather_13 : decode cX4_gather 13 = .ok (.invokestatic 101, 3) := by decide +kernel
theorem dX4_gather_16 : decode cX4_gather 16 = .ok (.ifCond .eq 12, 3) := by decide +kernel
theorem dX4_gather_19 : decode cX4_gather 19 = .ok (.iload_n 2, 1) := by decide +kernel
theorem dX4_gather_20 : decode cX4_gather 20 = .ok (.iconst 0, 1) := by decide +kernel
theorem dX4_gather_21 : decode cX4_gather 21 = .ok (.iconst 1, 1) := by decide +kernel
theorem dX4_gather_22 : decode cX4_gather 22 = .ok (.invokestatic 101, 3) := by decide +kernel
theorem dX4_gather_25 : decode cX4_gather 25 = .ok (.ifCond .ne 6, 3) := by decide +kernel
theorem dX4_gather_28 : decode cX4_gather 28 = .ok (.bipush (-2), 2) := by decide +kernel
theorem dX4_gather_30 : decode cX4_gather 30 = .ok (.ireturn, 1) := by decide +kernel
theorem dX4_gather_31 : decode cX4_gather 31 = .ok (.aload_n 0, 1) := by decide +kernel
theorem dX4_gather_32 : decode cX4_gather 32 = .ok (.iload_n 1, 1) := by decide +kernel
theorem dX4_gather_33 : decode cX4_gather 33 = .ok (.invokevirtual 185, 3) := by decide +kernel
theorem dX4_gather_36 : decode cX4_gather 36 = .ok (.istore_n 3, 1) := by decide +kernel
theorem dX4_gather_37 : decode cX4_gather 37 = .ok (.iload_n 2, 1) := by decide +kernel
theorem dX4_gather_38 : decode cX4_gather 38 = .ok (.iconst 1, 1) := by decide +kernel
theorem dX4_gather_39 : decode cX4_gather 39 = .ok (.if_icmp .eq 7, 3) := by decide +kernel
theorem dX4_gather_42 : decode cX4_gather 42 = .ok (.iload_n 3, 1) := by decide +kernel
theorem dX4_gather_43 : decode cX4_gather 43 = .ok (.ifCond .gt 5, 3) := by decide +kernel
theorem dX4_gather_46 : decode cX4_gather 46 = .ok (.iload_n 3, 1) := by decide +kernel
theorem dX4_gather_47 : decode cX4_gather 47 = .ok (.ireturn, 1) := by decide +kernel
theorem dX4_gather_48 : decode cX4_gather 48 = .ok (.iload_n 3, 1) := by decide +kernel
theorem dX4_gather_49 : decode cX4_gather 49 = .ok (.bipush 100, 2) := by decide +kernel
theorem dX4_gather_51 : decode cX4_gather 51 = .ok (.if_icmp .ge 7, 3) := by decide +kernel
theorem dX4_gather_54 : decode cX4_gather 54 = .ok (.iconst 1, 1) := by decide +kernel
theorem dX4_gather_55 : decode cX4_gather 55 = .ok (.goto 4, 3) := by decide +kernel
theorem dX4_gather_58 : decode cX4_gather 58 = .ok (.iconst 2, 1) := by decide +kernel
theorem dX4_gather_59 : decode cX4_gather 59 = .ok (.ireturn, 1) := by decide +kernel
abbrev cX4_best : ByteArray := prog_1_method_15_code
abbrev mX4_best : MethodName := { cls := "KinInTheHeap", name := "best", desc := "(I)I" }
theorem mwX4_best : MWV mX4_best (.code mX4_best cX4_best 3 (some .int)) "KinInTheHeap" 1 := ⟨w770, w768, w769, w98, w98, by decide +kernel⟩
theorem dX4_best_0 : decode cX4_best 0 = .ok (.iload_n 1, 1) := by decide +kernel
theorem dX4_best_1 : decode cX4_best 1 = .ok (.iconst 0, 1) := by decide +kernel
theorem dX4_best_2 : decode cX4_best 2 = .ok (.iconst 5, 1) := by decide +kernel
theorem dX4_best_3 : decode cX4_best 3 = .ok (.invokestatic 101, 3) := by decide +kernel
theorem dX4_best_6 : decode cX4_best 6 = .ok (.ifCond .ne 6, 3) := by decide +kernel
theorem dX4_best_9 : decode cX4_best 9 = .ok (.bipush (-2), 2) := by decide +kernel
theorem dX4_best_11 : decode cX4_best 11 = .ok (.ireturn, 1) := by decide +kernel
theorem dX4_best_12 : decode cX4_best 12 = .ok (.iload_n 1, 1) := by decide +kernel
theorem dX4_best_13 : decode cX4_best 13 = .ok (.iconst 2, 1) := by decide +kernel
theorem dX4_best_14 : decode cX4_best 14 = .ok (.if_icmp .ge 10, 3) := by decide +kernel
theorem dX4_best_17 : decode cX4_best 17 = .ok (.aload_n 0, 1) := by decide +kernel
theorem dX4_best_18 : decode cX4_best 18 = .ok (.invokevirtual 188, 3) := by decide +kernel
theorem dX4_best_21 : decode cX4_best 21 = .ok (.goto 19, 3) := by decide +kernel
theorem dX4_best_24 : decode cX4_best 24 = .ok (.iload_n 1, 1) := by decide +kernel
theorem dX4_best_25 : decode cX4_best 25 = .ok (.iconst 4, 1) := by decide +kernel
theorem dX4_best_26 : decode cX4_best 26 = .ok (.if_icmp .ge 10, 3) := by decide +kernel
theorem dX4_best_29 : decode cX4_best 29 = .ok (.aload_n 0, 1) := by decide +kernel
theorem dX4_best_30 : decode cX4_best 30 = .ok (.invokevirtual 191, 3) := by decide +kernel
theorem dX4_best_33 : decode cX4_best 33 = .ok (.goto 7, 3) := by decide +kernel
theorem dX4_best_36 : decode cX4_best 36 = .ok (.aload_n 0, 1) := by decide +kernel
theorem dX4_best_37 : decode cX4_best 37 = .ok (.invokevirtual 194, 3) := by decide +kernel
theorem dX4_best_40 : decode cX4_best 40 = .ok (.istore_n 2, 1) := by decide +kernel
theorem dX4_best_41 : decode cX4_best 41 = .ok (.iload_n 1, 1) := by decide +kernel
theorem dX4_best_42 : decode cX4_best 42 = .ok (.iconst 2, 1) := by decide +kernel
theorem dX4_best_43 : decode cX4_best 43 = .ok (.irem, 1) := by decide +kernel
theorem dX4_best_44 : decode cX4_best 44 = .ok (.ifCond .eq 8, 3) := by decide +kernel
theorem dX4_best_47 : decode cX4_best 47 = .ok (.iload_n 2, 1) := by decide +kernel
theorem dX4_best_48 : decode cX4_best 48 = .ok (.iconst (-1), 1) := by decide +kernel
theorem dX4_best_49 : decode cX4_best 49 = .ok (.if_icmp .ne 5, 3) := by decide +kernel
theorem dX4_best_52 : decode cX4_best 52 = .ok (.iload_n 2, 1) := by decide +kernel
theorem dX4_best_53 : decode cX4_best 53 = .ok (.ireturn, 1) := by decide +kernel
theorem dX4_best_54 : decode cX4_best 54 = .ok (.aload_n 0, 1) := by decide +kernel
theorem dX4_best_55 : decode cX4_best 55 = .ok (.iload_n 2, 1) := by decide +kernel
theorem dX4_best_56 : decode cX4_best 56 = .ok (.invokevirtual 197, 3) := by decide +kernel
theorem dX4_best_59 : decode cX4_best 59 = .ok (.iload_n 1, 1) := by decide +kernel
theorem dX4_best_60 : decode cX4_best 60 = .ok (.iconst 1, 1) := by decide +kernel
theorem dX4_best_61 : decode cX4_best 61 = .ok (.if_icmp .ne 13, 3) := by decide +kernel
theorem dX4_best_64 : decode cX4_best 64 = .ok (.aload_n 0, 1) := by decide +kernel
theorem dX4_best_65 : decode cX4_best 65 = .ok (.getfield 49, 3) := by decide +kernel
theorem dX4_best_68 : decode cX4_best 68 = .ok (.invokevirtual 162, 3) := by decide +kernel
theorem dX4_best_71 : decode cX4_best 71 = .ok (.goto 25, 3) := by decide +kernel
theorem dX4_best_74 : decode cX4_best 74 = .ok (.iload_n 1, 1) := by decide +kernel
theorem dX4_best_75 : decode cX4_best 75 = .ok (.iconst 3, 1) := by decide +kernel
theorem dX4_best_76 : decode cX4_best 76 = .ok (.if_icmp .ne 13, 3) := by decide +kernel
theorem dX4_best_79 : decode cX4_best 79 = .ok (.aload_n 0, 1) := by decide +kernel
theorem dX4_best_80 : decode cX4_best 80 = .ok (.getfield 49, 3) := by decide +kernel
theorem dX4_best_83 : decode cX4_best 83 = .ok (.invokevirtual 165, 3) := by decide +kernel
theorem dX4_best_86 : decode cX4_best 86 = .ok (.goto 10, 3) := by decide +kernel
theorem dX4_best_89 : decode cX4_best 89 = .ok (.aload_n 0, 1) := by decide +kernel
theorem dX4_best_90 : decode cX4_best 90 = .ok (.getfield 49, 3) := by decide +kernel
theorem dX4_best_93 : decode cX4_best 93 = .ok (.invokevirtual 201, 3) := by decide +kernel
theorem dX4_best_96 : decode cX4_best 96 = .ok (.ireturn, 1) := by decide +kernel
abbrev cX4_save : ByteArray := prog_1_method_16_code
abbrev mX4_save : MethodName := { cls := "KinInTheHeap", name := "save", desc := "(II)I" }
theorem mwX4_save : MWV mX4_save (.code mX4_save cX4_save 4 (some .int)) "KinInTheHeap" 2 := ⟨w801, w799, w800, w98, w98, by decide +kernel⟩
theorem dX4_save_0 : decode cX4_save 0 = .ok (.iload_n 1, 1) := by decide +kernel
theorem dX4_save_1 : decode cX4_save 1 = .ok (.invokestatic 120, 3) := by decide +kernel
theorem dX4_save_4 : decode cX4_save 4 = .ok (.ifCond .eq 12, 3) := by decide +kernel
theorem dX4_save_7 : decode cX4_save 7 = .ok (.iload_n 2, 1) := by decide +kernel
theorem dX4_save_8 : decode cX4_save 8 = .ok (.iconst 0, 1) := by decide +kernel
theorem dX4_save_9 : decode cX4_save 9 = .ok (.iconst 1, 1) := by decide +kernel
theorem dX4_save_10 : decode cX4_save 10 = .ok (.invokestatic 101, 3) := by decide +kernel
theorem dX4_save_13 : decode cX4_save 13 = .ok (.ifCond .ne 6, 3) := by decide +kernel
theorem dX4_save_16 : decode cX4_save 16 = .ok (.bipush (-2), 2) := by decide +kernel
theorem dX4_save_18 : decode cX4_save 18 = .ok (.ireturn, 1) := by decide +kernel
theorem dX4_save_19 : decode cX4_save 19 = .ok (.aload_n 0, 1) := by decide +kernel
theorem dX4_save_20 : decode cX4_save 20 = .ok (.iload_n 1, 1) := by decide +kernel
theorem dX4_save_21 : decode cX4_save 21 = .ok (.invokevirtual 204, 3) := by decide +kernel
theorem dX4_save_24 : decode cX4_save 24 = .ok (.istore_n 3, 1) := by decide +kernel
theorem dX4_save_25 : decode cX4_save 25 = .ok (.iload_n 2, 1) := by decide +kernel
theorem dX4_save_26 : decode cX4_save 26 = .ok (.ifCond .ne 7, 3) := by decide +kernel
theorem dX4_save_29 : decode cX4_save 29 = .ok (.iload_n 3, 1) := by decide +kernel
theorem dX4_save_30 : decode cX4_save 30 = .ok (.goto 9, 3) := by decide +kernel
theorem dX4_save_33 : decode cX4_save 33 = .ok (.aload_n 0, 1) := by decide +kernel
theorem dX4_save_34 : decode cX4_save 34 = .ok (.iload_n 1, 1) := by decide +kernel
theorem dX4_save_35 : decode cX4_save 35 = .ok (.iload_n 3, 1) := by decide +kernel
theorem dX4_save_36 : decode cX4_save 36 = .ok (.invokevirtual 207, 3) := by decide +kernel
theorem dX4_save_39 : decode cX4_save 39 = .ok (.ireturn, 1) := by decide +kernel
abbrev cX4_lasts : ByteArray := prog_1_method_17_code
abbrev mX4_lasts : MethodName := { cls := "KinInTheHeap", name := "lasts", desc := "(II)I" }
theorem mwX4_lasts : MWV mX4_lasts (.code mX4_lasts cX4_lasts 4 (some .int)) "KinInTheHeap" 2 := ⟨w813, w811, w812, w98, w98, by decide +kernel⟩
theorem dX4_lasts_0 : decode cX4_lasts 0 = .ok (.aload_n 0, 1) := by decide +kernel
theorem dX4_lasts_1 : decode cX4_lasts 1 = .ok (.getfield 42, 3) := by decide +kernel
theorem dX4_lasts_4 : decode cX4_lasts 4 = .ok (.iload_n 1, 1) := by decide +kernel
theorem dX4_lasts_5 : decode cX4_lasts 5 = .ok (.invokevirtual 91, 3) := by decide +kernel
theorem dX4_lasts_8 : decode cX4_lasts 8 = .ok (.ifCond .eq 13, 3) := by decide +kernel
theorem dX4_lasts_11 : decode cX4_lasts 11 = .ok (.iload_n 2, 1) := by decide +kernel
theorem dX4_lasts_12 : decode cX4_lasts 12 = .ok (.iconst 0, 1) := by decide +kernel
theorem dX4_lasts_13 : decode cX4_lasts 13 = .ok (.bipush 40, 2) := by decide +kernel
theorem dX4_lasts_15 : decode cX4_lasts 15 = .ok (.invokestatic 101, 3) := by decide +kernel
theorem dX4_lasts_18 : decode cX4_lasts 18 = .ok (.ifCond .ne 6, 3) := by decide +kernel
theorem dX4_lasts_21 : decode cX4_lasts 21 = .ok (.bipush (-2), 2) := by decide +kernel
theorem dX4_lasts_23 : decode cX4_lasts 23 = .ok (.ireturn, 1) := by decide +kernel
theorem dX4_lasts_24 : decode cX4_lasts 24 = .ok (.aload_n 0, 1) := by decide +kernel
theorem dX4_lasts_25 : decode cX4_lasts 25 = .ok (.getfield 49, 3) := by decide +kernel
theorem dX4_lasts_28 : decode cX4_lasts 28 = .ok (.aload_n 0, 1) := by decide +kernel
theorem dX4_lasts_29 : decode cX4_lasts 29 = .ok (.getfield 42, 3) := by decide +kernel
theorem dX4_lasts_32 : decode cX4_lasts 32 = .ok (.invokevirtual 140, 3) := by decide +kernel
theorem dX4_lasts_35 : decode cX4_lasts 35 = .ok (.iconst 0, 1) := by decide +kernel
theorem dX4_lasts_36 : decode cX4_lasts 36 = .ok (.istore_n 3, 1) := by decide +kernel
theorem dX4_lasts_37 : decode cX4_lasts 37 = .ok (.iload_n 3, 1) := by decide +kernel
theorem dX4_lasts_38 : decode cX4_lasts 38 = .ok (.iload_n 2, 1) := by decide +kernel
theorem dX4_lasts_39 : decode cX4_lasts 39 = .ok (.if_icmp .ge 28, 3) := by decide +kernel
theorem dX4_lasts_42 : decode cX4_lasts 42 = .ok (.aload_n 0, 1) := by decide +kernel
theorem dX4_lasts_43 : decode cX4_lasts 43 = .ok (.getfield 49, 3) := by decide +kernel
theorem dX4_lasts_46 : decode cX4_lasts 46 = .ok (.iload_n 1, 1) := by decide +kernel
theorem dX4_lasts_47 : decode cX4_lasts 47 = .ok (.invokevirtual 210, 3) := by decide +kernel
theorem dX4_lasts_50 : decode cX4_lasts 50 = .ok (.ifCond .eq 17, 3) := by decide +kernel
theorem dX4_lasts_53 : decode cX4_lasts 53 = .ok (.aload_n 0, 1) := by decide +kernel
theorem dX4_lasts_54 : decode cX4_lasts 54 = .ok (.getfield 49, 3) := by decide +kernel
theorem dX4_lasts_57 : decode cX4_lasts 57 = .ok (.invokevirtual 126, 3) := by decide +kernel
theorem dX4_lasts_60 : decode cX4_lasts 60 = .ok (.pop, 1) := by decide +kernel
theorem dX4_lasts_61 : decode cX4_lasts 61 = .ok (.iinc 3 1, 3) := by decide +kernel
theorem dX4_lasts_64 : decode cX4_lasts 64 = .ok (.goto (-27), 3) := by decide +kernel
theorem dX4_lasts_67 : decode cX4_lasts 67 = .ok (.aload_n 0, 1) := by decide +kernel
theorem dX4_lasts_68 : decode cX4_lasts 68 = .ok (.getfield 49, 3) := by decide +kernel
theorem dX4_lasts_71 : decode cX4_lasts 71 = .ok (.iload_n 1, 1) := by decide +kernel
theorem dX4_lasts_72 : decode cX4_lasts 72 = .ok (.invokevirtual 210, 3) := by decide +kernel
theorem dX4_lasts_75 : decode cX4_lasts 75 = .ok (.ifCond .eq 7, 3) := by decide +kernel
theorem dX4_lasts_78 : decode cX4_lasts 78 = .ok (.iconst (-1), 1) := by decide +kernel
theorem dX4_lasts_79 : decode cX4_lasts 79 = .ok (.goto 18, 3) := by decide +kernel
theorem dX4_lasts_82 : decode cX4_lasts 82 = .ok (.aload_n 0, 1) := by decide +kernel
theorem dX4_lasts_83 : decode cX4_lasts 83 = .ok (.getfield 49, 3) := by decide +kernel
theorem dX4_lasts_86 : decode cX4_lasts 86 = .ok (.getfield 82, 3) := by decide +kernel
theorem dX4_lasts_89 : decode cX4_lasts 89 = .ok (.aload_n 0, 1) := by decide +kernel
theorem dX4_lasts_90 : decode cX4_lasts 90 = .ok (.getfield 42, 3) := by decide +kernel
theorem dX4_lasts_93 : decode cX4_lasts 93 = .ok (.getfield 82, 3) := by decide +kernel
theorem dX4_lasts_96 : decode cX4_lasts 96 = .ok (.isub, 1) := by decide +kernel
theorem dX4_lasts_97 : decode cX4_lasts 97 = .ok (.ireturn, 1) := by decide +kernel
abbrev cX4_share : ByteArray := prog_1_method_18_code
abbrev mX4_share : MethodName := { cls := "KinInTheHeap", name := "share", desc := "(I)J" }
theorem mwX4_share : MWV mX4_share (.code mX4_share cX4_share 2 (some .long)) "KinInTheHeap" 1 := ⟨w817, w815, w816, w98, w98, by decide +kernel⟩
theorem dX4_share_0 : decode cX4_share 0 = .ok (.aload_n 0, 1) := by decide +kernel
theorem dX4_share_1 : decode cX4_share 1 = .ok (.getfield 42, 3) := by decide +kernel
theorem dX4_share_4 : decode cX4_share 4 = .ok (.invokevirtual 201, 3) := by decide +kernel
theorem dX4_share_7 : decode cX4_share 7 = .ok (.aload_n 0, 1) := by decide +kernel
theorem dX4_share_8 : decode cX4_share 8 = .ok (.getfield 42, 3) := by decide +kernel
theorem dX4_share_11 : decode cX4_share 11 = .ok (.getfield 79, 3) := by decide +kernel
theorem dX4_share_14 : decode cX4_share 14 = .ok (.iload_n 1, 1) := by decide +kernel
theorem dX4_share_15 : decode cX4_share 15 = .ok (.invokestatic 213, 3) := by decide +kernel
theorem dX4_share_18 : decode cX4_share 18 = .ok (.lreturn, 1) := by decide +kernel
abbrev cX4_tells : ByteArray := prog_1_method_19_code
abbrev mX4_tells : MethodName := { cls := "KinInTheHeap", name := "tells", desc := "(III)I" }
theorem mwX4_tells : MWV mX4_tells (.code mX4_tells cX4_tells 5 (some .int)) "KinInTheHeap" 3 := ⟨w824, w822, w823, w98, w98, by decide +kernel⟩
theorem dX4_tells_0 : decode cX4_tells 0 = .ok (.iload_n 1, 1) := by decide +kernel
theorem dX4_tells_1 : decode cX4_tells 1 = .ok (.invokestatic 130, 3) := by decide +kernel
theorem dX4_tells_4 : decode cX4_tells 4 = .ok (.ifCond .eq 24, 3) := by decide +kernel
theorem dX4_tells_7 : decode cX4_tells 7 = .ok (.aload_n 0, 1) := by decide +kernel
theorem dX4_tells_8 : decode cX4_tells 8 = .ok (.getfield 42, 3) := by decide +kernel
theorem dX4_tells_11 : decode cX4_tells 11 = .ok (.iload_n 2, 1) := by decide +kernel
theorem dX4_tells_12 : decode cX4_tells 12 = .ok (.invokevirtual 210, 3) := by decide +kernel
theorem dX4_tells_15 : decode cX4_tells 15 = .ok (.ifCond .eq 13, 3) := by decide +kernel
theorem dX4_tells_18 : decode cX4_tells 18 = .ok (.iload_n 3, 1) := by decide +kernel
theorem dX4_tells_19 : decode cX4_tells 19 = .ok (.iconst 0, 1) := by decide +kernel
theorem dX4_tells_20 : decode cX4_tells 20 = .ok (.bipush 6, 2) := by decide +kernel
theorem dX4_tells_22 : decode cX4_tells 22 = .ok (.invokestatic 101, 3) := by decide +kernel
theorem dX4_tells_25 : decode cX4_tells 25 = .ok (.ifCond .ne 6, 3) := by decide +kernel
theorem dX4_tells_28 : decode cX4_tells 28 = .ok (.bipush (-2), 2) := by decide +kernel
theorem dX4_tells_30 : decode cX4_tells 30 = .ok (.ireturn, 1) := by decide +kernel
theorem dX4_tells_31 : decode cX4_tells 31 = .ok (.aload_n 0, 1) := by decide +kernel
theorem dX4_tells_32 : decode cX4_tells 32 = .ok (.getfield 17, 3) := by decide +kernel
theorem dX4_tells_35 : decode cX4_tells 35 = .ok (.iload_n 1, 1) := by decide +kernel
theorem dX4_tells_36 : decode cX4_tells 36 = .ok (.aaload, 1) := by decide +kernel
theorem dX4_tells_37 : decode cX4_tells 37 = .ok (.invokestatic 217, 3) := by decide +kernel
theorem dX4_tells_40 : decode cX4_tells 40 = .ok (.istore 4, 2) := by decide +kernel
theorem dX4_tells_42 : decode cX4_tells 42 = .ok (.iload 4, 2) := by decide +kernel
theorem dX4_tells_44 : decode cX4_tells 44 = .ok (.ifCond .eq 8, 3) := by decide +kernel
theorem dX4_tells_47 : decode cX4_tells 47 = .ok (.iload 4, 2) := by decide +kernel
theorem dX4_tells_49 : decode cX4_tells 49 = .ok (.goto 15, 3) := by decide +kernel
theorem dX4_tells_52 : decode cX4_tells 52 = .ok (.aload_n 0, 1) := by decide +kernel
theorem dX4_tells_53 : decode cX4_tells 53 = .ok (.aload_n 0, 1) := by decide +kernel
theorem dX4_tells_54 : decode cX4_tells 54 = .ok (.getfield 17, 3) := by decide +kernel
theorem dX4_tells_57 : decode cX4_tells 57 = .ok (.iload_n 1, 1) := by decide +kernel
theorem dX4_tells_58 : decode cX4_tells 58 = .ok (.aaload, 1) := by decide +kernel
theorem dX4_tells_59 : decode cX4_tells 59 = .ok (.iload_n 2, 1) := by decide +kernel
theorem dX4_tells_60 : decode cX4_tells 60 = .ok (.iload_n 3, 1) := by decide +kernel
theorem dX4_tells_61 : decode cX4_tells 61 = .ok (.invokevirtual 220, 3) := by decide +kernel
theorem dX4_tells_64 : decode cX4_tells 64 = .ok (.ireturn, 1) := by decide +kernel
abbrev cX4_places : ByteArray := prog_1_method_20_code
abbrev mX4_places : MethodName := { cls := "KinInTheHeap", name := "places", desc := "(II)J" }
theorem mwX4_places : MWV mX4_places (.code mX4_places cX4_places 6 (some .long)) "KinInTheHeap" 2 := ⟨w863, w861, w862, w98, w98, by decide +kernel⟩
theorem dX4_places_0 : decode cX4_places 0 = .ok (.iload_n 1, 1) := by decide +kernel
theorem dX4_places_1 : decode cX4_places 1 = .ok (.invokestatic 130, 3) := by decide +kernel
theorem dX4_places_4 : decode cX4_places 4 = .ok (.ifCond .eq 26, 3) := by decide +kernel
theorem dX4_places_7 : decode cX4_places 7 = .ok (.aload_n 0, 1) := by decide +kernel
theorem dX4_places_8 : decode cX4_places 8 = .ok (.getfield 42, 3) := by decide +kernel
theorem dX4_places_11 : decode cX4_places 11 = .ok (.iload_n 2, 1) := by decide +kernel
theorem dX4_places_12 : decode cX4_places 12 = .ok (.invokevirtual 210, 3) := by decide +kernel
theorem dX4_places_15 : decode cX4_places 15 = .ok (.ifCond .eq 15, 3) := by decide +kernel
theorem dX4_places_18 : decode cX4_places 18 = .ok (.aload_n 0, 1) := by decide +kernel
theorem dX4_places_19 : decode cX4_places 19 = .ok (.getfield 17, 3) := by decide +kernel
theorem dX4_places_22 : decode cX4_places 22 = .ok (.iload_n 1, 1) := by decide +kernel
theorem dX4_places_23 : decode cX4_places 23 = .ok (.aaload, 1) := by decide +kernel
theorem dX4_places_24 : decode cX4_places 24 = .ok (.invokestatic 217, 3) := by decide +kernel
theorem dX4_places_27 : decode cX4_places 27 = .ok (.ifCond .eq 7, 3) := by decide +kernel
theorem dX4_places_30 : decode cX4_places 30 = .ok (.ldc2_w 179, 3) := by decide +kernel
theorem dX4_places_33 : decode cX4_places 33 = .ok (.lreturn, 1) := by decide +kernel
theorem dX4_places_34 : decode cX4_places 34 = .ok (.aload_n 0, 1) := by decide +kernel
theorem dX4_places_35 : decode cX4_places 35 = .ok (.getfield 49, 3) := by decide +kernel
theorem dX4_places_38 : decode cX4_places 38 = .ok (.aload_n 0, 1) := by decide +kernel
theorem dX4_places_39 : decode cX4_places 39 = .ok (.getfield 42, 3) := by decide +kernel
theorem dX4_places_42 : decode cX4_places 42 = .ok (.invokevirtual 140, 3) := by decide +kernel
theorem dX4_places_45 : decode cX4_places 45 = .ok (.lconst 0, 1) := by decide +kernel
theorem dX4_places_46 : decode cX4_places 46 = .ok (.lstore_n 3, 1) := by decide +kernel
theorem dX4_places_47 : decode cX4_places 47 = .ok (.iconst 0, 1) := by decide +kernel
theorem dX4_places_48 : decode cX4_places 48 = .ok (.istore 5, 2) := by decide +kernel
theorem dX4_places_50 : decode cX4_places 50 = .ok (.iload 5, 2) := by decide +kernel
theorem dX4_places_52 : decode cX4_places 52 = .ok (.bipush 36, 2) := by decide +kernel
theorem dX4_places_54 : decode cX4_places 54 = .ok (.if_icmp .ge 42, 3) := by decide +kernel
theorem dX4_places_57 : decode cX4_places 57 = .ok (.aload_n 0, 1) := by decide +kernel
theorem dX4_places_58 : decode cX4_places 58 = .ok (.getfield 49, 3) := by decide +kernel
theorem dX4_places_61 : decode cX4_places 61 = .ok (.getfield 152, 3) := by decide +kernel
theorem dX4_places_64 : decode cX4_places 64 = .ok (.iload_n 2, 1) := by decide +kernel
theorem dX4_places_65 : decode cX4_places 65 = .ok (.iload 5, 2) := by decide +kernel
theorem dX4_places_67 : decode cX4_places 67 = .ok (.iastore, 1) := by decide +kernel
theorem dX4_places_68 : decode cX4_places 68 = .ok (.aload_n 0, 1) := by decide +kernel
theorem dX4_places_69 : decode cX4_places 69 = .ok (.aload_n 0, 1) := by decide +kernel
theorem dX4_places_70 : decode cX4_places 70 = .ok (.getfield 17, 3) := by decide +kernel
theorem dX4_places_73 : decode cX4_places 73 = .ok (.iload_n 1, 1) := by decide +kernel
theorem dX4_places_74 : decode cX4_places 74 = .ok (.aaload, 1) := by decide +kernel
theorem dX4_places_75 : decode cX4_places 75 = .ok (.iload_n 2, 1) := by decide +kernel
theorem dX4_places_76 : decode cX4_places 76 = .ok (.invokevirtual 224, 3) := by decide +kernel
theorem dX4_places_79 : decode cX4_places 79 = .ok (.iconst (-1), 1) := by decide +kernel
theorem dX4_places_80 : decode cX4_places 80 = .ok (.if_icmp .ne 10, 3) := by decide +kernel
theorem dX4_places_83 : decode cX4_places 83 = .ok (.lload_n 3, 1) := by decide +kernel
theorem dX4_places_84 : decode cX4_places 84 = .ok (.lconst 1, 1) := by decide +kernel
theorem dX4_places_85 : decode cX4_places 85 = .ok (.iload 5, 2) := by decide +kernel
theorem dX4_places_87 : decode cX4_places 87 = .ok (.lshl, 1) := by decide +kernel
theorem dX4_places_88 : decode cX4_places 88 = .ok (.lor, 1) := by decide +kernel
theorem dX4_places_89 : decode cX4_places 89 = .ok (.lstore_n 3, 1) := by decide +kernel
theorem dX4_places_90 : decode cX4_places 90 = .ok (.iinc 5 1, 3) := by decide +kernel
theorem dX4_places_93 : decode cX4_places 93 = .ok (.goto (-43), 3) := by decide +kernel
theorem dX4_places_96 : decode cX4_places 96 = .ok (.lload_n 3, 1) := by decide +kernel
theorem dX4_places_97 : decode cX4_places 97 = .ok (.lreturn, 1) := by decide +kernel
abbrev cX4_film : ByteArray := prog_1_method_21_code
abbrev mX4_film : MethodName := { cls := "KinInTheHeap", name := "film", desc := "(II)I" }
theorem mwX4_film : MWV mX4_film (.code mX4_film cX4_film 6 (some .int)) "KinInTheHeap" 2 := ⟨w867, w865, w866, w98, w98, by decide +kernel⟩
theorem dX4_film_0 : decode cX4_film 0 = .ok (.iload_n 1, 1) := by decide +kernel
theorem dX4_film_1 : decode cX4_film 1 = .ok (.invokestatic 130, 3) := by decide +kernel
theorem dX4_film_4 : decode cX4_film 4 = .ok (.ifCond .eq 14, 3) := by decide +kernel
theorem dX4_film_7 : decode cX4_film 7 = .ok (.aload_n 0, 1) := by decide +kernel
theorem dX4_film_8 : decode cX4_film 8 = .ok (.getfield 42, 3) := by decide +kernel
theorem dX4_film_11 : decode cX4_film 11 = .ok (.iload_n 2, 1) := by decide +kernel
theorem dX4_film_12 : decode cX4_film 12 = .ok (.invokevirtual 210, 3) := by decide +kernel
theorem dX4_film_15 : decode cX4_film 15 = .ok (.ifCond .ne 6, 3) := by decide +kernel
theorem dX4_film_18 : decode cX4_film 18 = .ok (.bipush (-2), 2) := by decide +kernel
theorem dX4_film_20 : decode cX4_film 20 = .ok (.ireturn, 1) := by decide +kernel
theorem dX4_film_21 : decode cX4_film 21 = .ok (.aload_n 0, 1) := by decide +kernel
theorem dX4_film_22 : decode cX4_film 22 = .ok (.getfield 49, 3) := by decide +kernel
theorem dX4_film_25 : decode cX4_film 25 = .ok (.aload_n 0, 1) := by decide +kernel
theorem dX4_film_26 : decode cX4_film 26 = .ok (.getfield 42, 3) := by decide +kernel
theorem dX4_film_29 : decode cX4_film 29 = .ok (.invokevirtual 140, 3) := by decide +kernel
theorem dX4_film_32 : decode cX4_film 32 = .ok (.aload_n 0, 1) := by decide +kernel
theorem dX4_film_33 : decode cX4_film 33 = .ok (.getfield 17, 3) := by decide +kernel
theorem dX4_film_36 : decode cX4_film 36 = .ok (.iload_n 1, 1) := by decide +kernel
theorem dX4_film_37 : decode cX4_film 37 = .ok (.aaload, 1) := by decide +kernel
theorem dX4_film_38 : decode cX4_film 38 = .ok (.iconst 0, 1) := by decide +kernel
theorem dX4_film_39 : decode cX4_film 39 = .ok (.bipush 10, 2) := by decide +kernel
theorem dX4_film_41 : decode cX4_film 41 = .ok (.invokevirtual 228, 3) := by decide +kernel
theorem dX4_film_44 : decode cX4_film 44 = .ok (.iconst 0, 1) := by decide +kernel
theorem dX4_film_45 : decode cX4_film 45 = .ok (.istore_n 3, 1) := by decide +kernel
theorem dX4_film_46 : decode cX4_film 46 = .ok (.iconst 0, 1) := by decide +kernel
theorem dX4_film_47 : decode cX4_film 47 = .ok (.istore 4, 2) := by decide +kernel
theorem dX4_film_49 : decode cX4_film 49 = .ok (.iload 4, 2) := by decide +kernel
theorem dX4_film_51 : decode cX4_film 51 = .ok (.bipush 10, 2) := by decide +kernel
theorem dX4_film_53 : decode cX4_film 53 = .ok (.if_icmp .ge 47, 3) := by decide +kernel
theorem dX4_film_56 : decode cX4_film 56 = .ok (.aload_n 0, 1) := by decide +kernel
theorem dX4_film_57 : decode cX4_film 57 = .ok (.getfield 49, 3) := by decide +kernel
theorem dX4_film_60 : decode cX4_film 60 = .ok (.iload 4, 2) := by decide +kernel
theorem dX4_film_62 : decode cX4_film 62 = .ok (.putfield 85, 3) := by decide +kernel
theorem dX4_film_65 : decode cX4_film 65 = .ok (.aload_n 0, 1) := by decide +kernel
theorem dX4_film_66 : decode cX4_film 66 = .ok (.getfield 49, 3) := by decide +kernel
theorem dX4_film_69 : decode cX4_film 69 = .ok (.iload_n 2, 1) := by decide +kernel
theorem dX4_film_70 : decode cX4_film 70 = .ok (.invokevirtual 232, 3) := by decide +kernel
theorem dX4_film_73 : decode cX4_film 73 = .ok (.istore 5, 2) := by decide +kernel
theorem dX4_film_75 : decode cX4_film 75 = .ok (.aload_n 0, 1) := by decide +kernel
theorem dX4_film_76 : decode cX4_film 76 = .ok (.getfield 17, 3) := by decide +kernel
theorem dX4_film_79 : decode cX4_film 79 = .ok (.iload_n 1, 1) := by decide +kernel
theorem dX4_film_80 : decode cX4_film 80 = .ok (.aaload, 1) := by decide +kernel
theorem dX4_film_81 : decode cX4_film 81 = .ok (.iload 4, 2) := by decide +kernel
theorem dX4_film_83 : decode cX4_film 83 = .ok (.iload 5, 2) := by decide +kernel
theorem dX4_film_85 : decode cX4_film 85 = .ok (.invokevirtual 235, 3) := by decide +kernel
theorem dX4_film_88 : decode cX4_film 88 = .ok (.pop, 1) := by decide +kernel
theorem dX4_film_89 : decode cX4_film 89 = .ok (.iload_n 3, 1) := by decide +kernel
theorem dX4_film_90 : decode cX4_film 90 = .ok (.iload 5, 2) := by decide +kernel
theorem dX4_film_92 : decode cX4_film 92 = .ok (.iadd, 1) := by decide +kernel
theorem dX4_film_93 : decode cX4_film 93 = .ok (.istore_n 3, 1) := by decide +kernel
theorem dX4_film_94 : decode cX4_film 94 = .ok (.iinc 4 1, 3) := by decide +kernel
theorem dX4_film_97 : decode cX4_film 97 = .ok (.goto (-48), 3) := by decide +kernel
theorem dX4_film_100 : decode cX4_film 100 = .ok (.iload_n 3, 1) := by decide +kernel
theorem dX4_film_101 : decode cX4_film 101 = .ok (.ireturn, 1) := by decide +kernel
abbrev cX4_drawn : ByteArray := prog_1_method_22_code
abbrev mX4_drawn : MethodName := { cls := "KinInTheHeap", name := "drawn", desc := "(II)I" }
theorem mwX4_drawn : MWV mX4_drawn (.code mX4_drawn cX4_drawn 3 (some .int)) "KinInTheHeap" 2 := ⟨w881, w879, w880, w98, w98, by decide +kernel⟩
theorem dX4_drawn_0 : decode cX4_drawn 0 = .ok (.iload_n 2, 1) := by decide +kernel
theorem dX4_drawn_1 : decode cX4_drawn 1 = .ok (.iconst 0, 1) := by decide +kernel
theorem dX4_drawn_2 : decode cX4_drawn 2 = .ok (.bipush 40, 2) := by decide +kernel
theorem dX4_drawn_4 : decode cX4_drawn 4 = .ok (.invokestatic 101, 3) := by decide +kernel
theorem dX4_drawn_7 : decode cX4_drawn 7 = .ok (.ifCond .eq 12, 3) := by decide +kernel
theorem dX4_drawn_10 : decode cX4_drawn 10 = .ok (.aload_n 0, 1) := by decide +kernel
theorem dX4_drawn_11 : decode cX4_drawn 11 = .ok (.iload_n 1, 1) := by decide +kernel
theorem dX4_drawn_12 : decode cX4_drawn 12 = .ok (.iload_n 2, 1) := by decide +kernel
theorem dX4_drawn_13 : decode cX4_drawn 13 = .ok (.invokevirtual 239, 3) := by decide +kernel
theorem dX4_drawn_16 : decode cX4_drawn 16 = .ok (.goto 5, 3) := by decide +kernel
theorem dX4_drawn_19 : decode cX4_drawn 19 = .ok (.bipush (-2), 2) := by decide +kernel
theorem dX4_drawn_21 : decode cX4_drawn 21 = .ok (.ireturn, 1) := by decide +kernel
abbrev cX4_chance : ByteArray := prog_1_method_23_code
abbrev mX4_chance : MethodName := { cls := "KinInTheHeap", name := "chance", desc := "(IIII)J" }
theorem mwX4_chance : MWV mX4_chance (.code mX4_chance cX4_chance 7 (some .long)) "KinInTheHeap" 4 := ⟨w890, w888, w889, w98, w98, by decide +kernel⟩
theorem dX4_chance_0 : decode cX4_chance 0 = .ok (.iload_n 2, 1) := by decide +kernel
theorem dX4_chance_1 : decode cX4_chance 1 = .ok (.iconst 1, 1) := by decide +kernel
theorem dX4_chance_2 : decode cX4_chance 2 = .ok (.bipush 20, 2) := by decide +kernel
theorem dX4_chance_4 : decode cX4_chance 4 = .ok (.invokestatic 101, 3) := by decide +kernel
theorem dX4_chance_7 : decode cX4_chance 7 = .ok (.ifCond .eq 13, 3) := by decide +kernel
theorem dX4_chance_10 : decode cX4_chance 10 = .ok (.iload_n 3, 1) := by decide +kernel
theorem dX4_chance_11 : decode cX4_chance 11 = .ok (.iconst 0, 1) := by decide +kernel
theorem dX4_chance_12 : decode cX4_chance 12 = .ok (.bipush 8, 2) := by decide +kernel
theorem dX4_chance_14 : decode cX4_chance 14 = .ok (.invokestatic 101, 3) := by decide +kernel
theorem dX4_chance_17 : decode cX4_chance 17 = .ok (.ifCond .ne 7, 3) := by decide +kernel
theorem dX4_chance_20 : decode cX4_chance 20 = .ok (.ldc2_w 179, 3) := by decide +kernel
theorem dX4_chance_23 : decode cX4_chance 23 = .ok (.lreturn, 1) := by decide +kernel
theorem dX4_chance_24 : decode cX4_chance 24 = .ok (.iconst 0, 1) := by decide +kernel
theorem dX4_chance_25 : decode cX4_chance 25 = .ok (.istore 5, 2) := by decide +kernel
theorem dX4_chance_27 : decode cX4_chance 27 = .ok (.iconst 0, 1) := by decide +kernel
theorem dX4_chance_28 : decode cX4_chance 28 = .ok (.istore 6, 2) := by decide +kernel
theorem dX4_chance_30 : decode cX4_chance 30 = .ok (.iload 6, 2) := by decide +kernel
theorem dX4_chance_32 : decode cX4_chance 32 = .ok (.iload_n 2, 1) := by decide +kernel
theorem dX4_chance_33 : decode cX4_chance 33 = .ok (.if_icmp .ge 26, 3) := by decide +kernel
theorem dX4_chance_36 : decode cX4_chance 36 = .ok (.aload_n 0, 1) := by decide +kernel
theorem dX4_chance_37 : decode cX4_chance 37 = .ok (.iload_n 1, 1) := by decide +kernel
theorem dX4_chance_38 : decode cX4_chance 38 = .ok (.iload 6, 2) := by decide +kernel
theorem dX4_chance_40 : decode cX4_chance 40 = .ok (.iadd, 1) := by decide +kernel
theorem dX4_chance_41 : decode cX4_chance 41 = .ok (.bipush 6, 2) := by decide +kernel
theorem dX4_chance_43 : decode cX4_chance 43 = .ok (.invokevirtual 239, 3) := by decide +kernel
theorem dX4_chance_46 : decode cX4_chance 46 = .ok (.iload_n 3, 1) := by decide +kernel
theorem dX4_chance_47 : decode cX4_chance 47 = .ok (.if_icmp .gt 6, 3) := by decide +kernel
theorem dX4_chance_50 : decode cX4_chance 50 = .ok (.iinc 5 1, 3) := by decide +kernel
theorem dX4_chance_53 : decode cX4_chance 53 = .ok (.iinc 6 1, 3) := by decide +kernel
theorem dX4_chance_56 : decode cX4_chance 56 = .ok (.goto (-26), 3) := by decide +kernel
theorem dX4_chance_59 : decode cX4_chance 59 = .ok (.iload 5, 2) := by decide +kernel
theorem dX4_chance_61 : decode cX4_chance 61 = .ok (.iload_n 2, 1) := by decide +kernel
theorem dX4_chance_62 : decode cX4_chance 62 = .ok (.iload 4, 2) := by decide +kernel
theorem dX4_chance_64 : decode cX4_chance 64 = .ok (.invokestatic 213, 3) := by decide +kernel
theorem dX4_chance_67 : decode cX4_chance 67 = .ok (.lreturn, 1) := by decide +kernel
abbrev cX4_image : ByteArray := prog_1_method_24_code
abbrev mX4_image : MethodName := { cls := "KinInTheHeap", name := "image", desc := "()I" }
theorem mwX4_image : MWV mX4_image (.code mX4_image cX4_image 1 (some .int)) "KinInTheHeap" 0 := ⟨w894, w892, w893, w98, w98, by decide +kernel⟩
theorem dX4_image_0 : decode cX4_image 0 = .ok (.aload_n 0, 1) := by decide +kernel
theorem dX4_image_1 : decode cX4_image 1 = .ok (.getfield 46, 3) := by decide +kernel
theorem dX4_image_4 : decode cX4_image 4 = .ok (.aload_n 0, 1) := by decide +kernel
theorem dX4_image_5 : decode cX4_image 5 = .ok (.getfield 42, 3) := by decide +kernel
theorem dX4_image_8 : decode cX4_image 8 = .ok (.invokevirtual 140, 3) := by decide +kernel
theorem dX4_image_11 : decode cX4_image 11 = .ok (.aload_n 0, 1) := by decide +kernel
theorem dX4_image_12 : decode cX4_image 12 = .ok (.iconst 1, 1) := by decide +kernel
theorem dX4_image_13 : decode cX4_image 13 = .ok (.putfield 242, 3) := by decide +kernel
theorem dX4_image_16 : decode cX4_image 16 = .ok (.aload_n 0, 1) := by decide +kernel
theorem dX4_image_17 : decode cX4_image 17 = .ok (.getfield 42, 3) := by decide +kernel
theorem dX4_image_20 : decode cX4_image 20 = .ok (.getfield 79, 3) := by decide +kernel
theorem dX4_image_23 : decode cX4_image 23 = .ok (.ireturn, 1) := by decide +kernel
abbrev cX4_back : ByteArray := prog_1_method_25_code
abbrev mX4_back : MethodName := { cls := "KinInTheHeap", name := "back", desc := "()I" }
theorem mwX4_back : MWV mX4_back (.code mX4_back cX4_back 1 (some .int)) "KinInTheHeap" 0 := ⟨w898, w896, w897, w98, w98, by decide +kernel⟩
theorem dX4_back_0 : decode cX4_back 0 = .ok (.aload_n 0, 1) := by decide +kernel
theorem dX4_back_1 : decode cX4_back 1 = .ok (.getfield 242, 3) := by decide +kernel
theorem dX4_back_4 : decode cX4_back 4 = .ok (.ifCond .ne 6, 3) := by decide +kernel
theorem dX4_back_7 : decode cX4_back 7 = .ok (.bipush (-3), 2) := by decide +kernel
theorem dX4_back_9 : decode cX4_back 9 = .ok (.ireturn, 1) := by decide +kernel
theorem dX4_back_10 : decode cX4_back 10 = .ok (.aload_n 0, 1) := by decide +kernel
theorem dX4_back_11 : decode cX4_back 11 = .ok (.getfield 42, 3) := by decide +kernel
theorem dX4_back_14 : decode cX4_back 14 = .ok (.aload_n 0, 1) := by decide +kernel
theorem dX4_back_15 : decode cX4_back 15 = .ok (.getfield 46, 3) := by decide +kernel
theorem dX4_back_18 : decode cX4_back 18 = .ok (.invokevirtual 140, 3) := by decide +kernel
theorem dX4_back_21 : decode cX4_back 21 = .ok (.aload_n 0, 1) := by decide +kernel
theorem dX4_back_22 : decode cX4_back 22 = .ok (.getfield 42, 3) := by decide +kernel
theorem dX4_back_25 : decode cX4_back 25 = .ok (.getfield 79, 3) := by decide +kernel
theorem dX4_back_28 : decode cX4_back 28 = .ok (.ireturn, 1) := by decide +kernel
abbrev cX4_count : ByteArray := prog_1_method_26_code
abbrev mX4_count : MethodName := { cls := "KinInTheHeap", name := "count", desc := "(I)I" }
theorem mwX4_count : MWV mX4_count (.code mX4_count cX4_count 2 (some .int)) "KinInTheHeap" 1 := ⟨w902, w900, w901, w98, w98, by decide +kernel⟩
theorem dX4_count_0 : decode cX4_count 0 = .ok (.iload_n 1, 1) := by decide +kernel
theorem dX4_count_1 : decode cX4_count 1 = .ok (.tableswitch 87 0 5 #[39, 47, 58, 66, 71, 79], 39) := by decide +kernel
theorem dX4_count_40 : decode cX4_count 40 = .ok (.aload_n 0, 1) := by decide +kernel
theorem dX4_count_41 : decode cX4_count 41 = .ok (.getfield 42, 3) := by decide +kernel
theorem dX4_count_44 : decode cX4_count 44 = .ok (.getfield 79, 3) := by decide +kernel
theorem dX4_count_47 : decode cX4_count 47 = .ok (.ireturn, 1) := by decide +kernel
theorem dX4_count_48 : decode cX4_count 48 = .ok (.aload_n 0, 1) := by decide +kernel
theorem dX4_count_49 : decode cX4_count 49 = .ok (.getfield 42, 3) := by decide +kernel
theorem dX4_count_52 : decode cX4_count 52 = .ok (.getfield 175, 3) := by decide +kernel
theorem dX4_count_55 : decode cX4_count 55 = .ok (.invokestatic 246, 3) := by decide +kernel
theorem dX4_count_58 : decode cX4_count 58 = .ok (.ireturn, 1) := by decide +kernel
theorem dX4_count_59 : decode cX4_count 59 = .ok (.aload_n 0, 1) := by decide +kernel
theorem dX4_count_60 : decode cX4_count 60 = .ok (.getfield 42, 3) := by decide +kernel
theorem dX4_count_63 : decode cX4_count 63 = .ok (.getfield 82, 3) := by decide +kernel
theorem dX4_count_66 : decode cX4_count 66 = .ok (.ireturn, 1) := by decide +kernel
theorem dX4_count_67 : decode cX4_count 67 = .ok (.aload_n 0, 1) := by decide +kernel
theorem dX4_count_68 : decode cX4_count 68 = .ok (.getfield 33, 3) := by decide +kernel
theorem dX4_count_71 : decode cX4_count 71 = .ok (.ireturn, 1) := by decide +kernel
theorem dX4_count_72 : decode cX4_count 72 = .ok (.aload_n 0, 1) := by decide +kernel
theorem dX4_count_73 : decode cX4_count 73 = .ok (.getfield 24, 3) := by decide +kernel
theorem dX4_count_76 : decode cX4_count 76 = .ok (.getfield 107, 3) := by decide +kernel
theorem dX4_count_79 : decode cX4_count 79 = .ok (.ireturn, 1) := by decide +kernel
theorem dX4_count_80 : decode cX4_count 80 = .ok (.aload_n 0, 1) := by decide +kernel
theorem dX4_count_81 : decode cX4_count 81 = .ok (.getfield 42, 3) := by decide +kernel
theorem dX4_count_84 : decode cX4_count 84 = .ok (.getfield 117, 3) := by decide +kernel
theorem dX4_count_87 : decode cX4_count 87 = .ok (.ireturn, 1) := by decide +kernel
theorem dX4_count_88 : decode cX4_count 88 = .ok (.bipush (-2), 2) := by decide +kernel
theorem dX4_count_90 : decode cX4_count 90 = .ok (.ireturn, 1) := by decide +kernel
abbrev cX4_sheet : ByteArray := prog_1_method_27_code
abbrev mX4_sheet : MethodName := { cls := "KinInTheHeap", name := "sheet", desc := "(III)I" }
theorem mwX4_sheet : MWV mX4_sheet (.code mX4_sheet cX4_sheet 4 (some .int)) "KinInTheHeap" 3 := ⟨w907, w905, w906, w98, w98, by decide +kernel⟩
theorem dX4_sheet_0 : decode cX4_sheet 0 = .ok (.iload_n 1, 1) := by decide +kernel
theorem dX4_sheet_1 : decode cX4_sheet 1 = .ok (.invokestatic 130, 3) := by decide +kernel
theorem dX4_sheet_4 : decode cX4_sheet 4 = .ok (.ifCond .eq 12, 3) := by decide +kernel
theorem dX4_sheet_7 : decode cX4_sheet 7 = .ok (.iload_n 2, 1) := by decide +kernel
theorem dX4_sheet_8 : decode cX4_sheet 8 = .ok (.iconst (-1), 1) := by decide +kernel
theorem dX4_sheet_9 : decode cX4_sheet 9 = .ok (.iconst 2, 1) := by decide +kernel
theorem dX4_sheet_10 : decode cX4_sheet 10 = .ok (.invokestatic 101, 3) := by decide +kernel
theorem dX4_sheet_13 : decode cX4_sheet 13 = .ok (.ifCond .ne 6, 3) := by decide +kernel
theorem dX4_sheet_16 : decode cX4_sheet 16 = .ok (.bipush (-2), 2) := by decide +kernel
theorem dX4_sheet_18 : decode cX4_sheet 18 = .ok (.ireturn, 1) := by decide +kernel
theorem dX4_sheet_19 : decode cX4_sheet 19 = .ok (.iload_n 2, 1) := by decide +kernel
theorem dX4_sheet_20 : decode cX4_sheet 20 = .ok (.iconst (-1), 1) := by decide +kernel
theorem dX4_sheet_21 : decode cX4_sheet 21 = .ok (.if_icmp .ne 16, 3) := by decide +kernel
theorem dX4_sheet_24 : decode cX4_sheet 24 = .ok (.aload_n 0, 1) := by decide +kernel
theorem dX4_sheet_25 : decode cX4_sheet 25 = .ok (.getfield 17, 3) := by decide +kernel
theorem dX4_sheet_28 : decode cX4_sheet 28 = .ok (.iload_n 1, 1) := by decide +kernel
theorem dX4_sheet_29 : decode cX4_sheet 29 = .ok (.aaload, 1) := by decide +kernel
theorem dX4_sheet_30 : decode cX4_sheet 30 = .ok (.iconst (-1), 1) := by decide +kernel
theorem dX4_sheet_31 : decode cX4_sheet 31 = .ok (.iconst 0, 1) := by decide +kernel
theorem dX4_sheet_32 : decode cX4_sheet 32 = .ok (.invokevirtual 228, 3) := by decide +kernel
theorem dX4_sheet_35 : decode cX4_sheet 35 = .ok (.iconst 1, 1) := by decide +kernel
theorem dX4_sheet_36 : decode cX4_sheet 36 = .ok (.ireturn, 1) := by decide +kernel
theorem dX4_sheet_37 : decode cX4_sheet 37 = .ok (.iload_n 3, 1) := by decide +kernel
theorem dX4_sheet_38 : decode cX4_sheet 38 = .ok (.bipush 40, 2) := by decide +kernel
theorem dX4_sheet_40 : decode cX4_sheet 40 = .ok (.if_icmp .le 6, 3) := by decide +kernel
theorem dX4_sheet_43 : decode cX4_sheet 43 = .ok (.bipush (-2), 2) := by decide +kernel
theorem dX4_sheet_45 : decode cX4_sheet 45 = .ok (.ireturn, 1) := by decide +kernel
theorem dX4_sheet_46 : decode cX4_sheet 46 = .ok (.iload_n 3, 1) := by decide +kernel
theorem dX4_sheet_47 : decode cX4_sheet 47 = .ok (.ifCond .ge 6, 3) := by decide +kernel
theorem dX4_sheet_50 : decode cX4_sheet 50 = .ok (.bipush (-14), 2) := by decide +kernel
theorem dX4_sheet_52 : decode cX4_sheet 52 = .ok (.ireturn, 1) := by decide +kernel
theorem dX4_sheet_53 : decode cX4_sheet 53 = .ok (.aload_n 0, 1) := by decide +kernel
theorem dX4_sheet_54 : decode cX4_sheet 54 = .ok (.getfield 17, 3) := by decide +kernel
theorem dX4_sheet_57 : decode cX4_sheet 57 = .ok (.iload_n 1, 1) := by decide +kernel
theorem dX4_sheet_58 : decode cX4_sheet 58 = .ok (.aaload, 1) := by decide +kernel
theorem dX4_sheet_59 : decode cX4_sheet 59 = .ok (.iload_n 2, 1) := by decide +kernel
theorem dX4_sheet_60 : decode cX4_sheet 60 = .ok (.iload_n 3, 1) := by decide +kernel
theorem dX4_sheet_61 : decode cX4_sheet 61 = .ok (.invokevirtual 228, 3) := by decide +kernel
theorem dX4_sheet_64 : decode cX4_sheet 64 = .ok (.iconst 1, 1) := by decide +kernel
theorem dX4_sheet_65 : decode cX4_sheet 65 = .ok (.ireturn, 1) := by decide +kernel
abbrev cX4_cell : ByteArray := prog_1_method_28_code
abbrev mX4_cell : MethodName := { cls := "KinInTheHeap", name := "cell", desc := "(III)I" }
theorem mwX4_cell : MWV mX4_cell (.code mX4_cell cX4_cell 4 (some .int)) "KinInTheHeap" 3 := ⟨w911, w909, w910, w98, w98, by decide +kernel⟩
theorem dX4_cell_0 : decode cX4_cell 0 = .ok (.iload_n 1, 1) := by decide +kernel
theorem dX4_cell_1 : decode cX4_cell 1 = .ok (.invokestatic 130, 3) := by decide +kernel
theorem dX4_cell_4 : decode cX4_cell 4 = .ok (.ifCond .ne 6, 3) := by decide +kernel
theorem dX4_cell_7 : decode cX4_cell 7 = .ok (.bipush (-2), 2) := by decide +kernel
theorem dX4_cell_9 : decode cX4_cell 9 = .ok (.ireturn, 1) := by decide +kernel
theorem dX4_cell_10 : decode cX4_cell 10 = .ok (.aload_n 0, 1) := by decide +kernel
theorem dX4_cell_11 : decode cX4_cell 11 = .ok (.getfield 17, 3) := by decide +kernel
theorem dX4_cell_14 : decode cX4_cell 14 = .ok (.iload_n 1, 1) := by decide +kernel
theorem dX4_cell_15 : decode cX4_cell 15 = .ok (.aaload, 1) := by decide +kernel
theorem dX4_cell_16 : decode cX4_cell 16 = .ok (.invokevirtual 252, 3) := by decide +kernel
theorem dX4_cell_19 : decode cX4_cell 19 = .ok (.ifCond .eq 6, 3) := by decide +kernel
theorem dX4_cell_22 : decode cX4_cell 22 = .ok (.bipush (-11), 2) := by decide +kernel
theorem dX4_cell_24 : decode cX4_cell 24 = .ok (.ireturn, 1) := by decide +kernel
theorem dX4_cell_25 : decode cX4_cell 25 = .ok (.aload_n 0, 1) := by decide +kernel
theorem dX4_cell_26 : decode cX4_cell 26 = .ok (.getfield 17, 3) := by decide +kernel
theorem dX4_cell_29 : decode cX4_cell 29 = .ok (.iload_n 1, 1) := by decide +kernel
theorem dX4_cell_30 : decode cX4_cell 30 = .ok (.aaload, 1) := by decide +kernel
theorem dX4_cell_31 : decode cX4_cell 31 = .ok (.iload_n 2, 1) := by decide +kernel
theorem dX4_cell_32 : decode cX4_cell 32 = .ok (.iload_n 3, 1) := by decide +kernel
theorem dX4_cell_33 : decode cX4_cell 33 = .ok (.invokevirtual 235, 3) := by decide +kernel
theorem dX4_cell_36 : decode cX4_cell 36 = .ok (.ifCond .eq 7, 3) := by decide +kernel
theorem dX4_cell_39 : decode cX4_cell 39 = .ok (.iconst 1, 1) := by decide +kernel
theorem dX4_cell_40 : decode cX4_cell 40 = .ok (.goto 5, 3) := by decide +kernel
theorem dX4_cell_43 : decode cX4_cell 43 = .ok (.bipush (-12), 2) := by decide +kernel
theorem dX4_cell_45 : decode cX4_cell 45 = .ok (.ireturn, 1) := by decide +kernel
abbrev cX4_copy : ByteArray := prog_1_method_29_code
abbrev mX4_copy : MethodName := { cls := "KinInTheHeap", name := "copy", desc := "(IIIII)I" }
theorem mwX4_copy : MWV mX4_copy (.code mX4_copy cX4_copy 8 (some .int)) "KinInTheHeap" 5 := ⟨w915, w913, w914, w98, w98, by decide +kernel⟩
theorem dX4_copy_0 : decode cX4_copy 0 = .ok (.iload_n 1, 1) := by decide +kernel
theorem dX4_copy_1 : decode cX4_copy 1 = .ok (.invokestatic 130, 3) := by decide +kernel
theorem dX4_copy_4 : decode cX4_copy 4 = .ok (.ifCond .eq 10, 3) := by decide +kernel
theorem dX4_copy_7 : decode cX4_copy 7 = .ok (.iload_n 3, 1) := by decide +kernel
theorem dX4_copy_8 : decode cX4_copy 8 = .ok (.invokestatic 130, 3) := by decide +kernel
theorem dX4_copy_11 : decode cX4_copy 11 = .ok (.ifCond .ne 6, 3) := by decide +kernel
theorem dX4_copy_14 : decode cX4_copy 14 = .ok (.bipush (-2), 2) := by decide +kernel
theorem dX4_copy_16 : decode cX4_copy 16 = .ok (.ireturn, 1) := by decide +kernel
theorem dX4_copy_17 : decode cX4_copy 17 = .ok (.aload_n 0, 1) := by decide +kernel
theorem dX4_copy_18 : decode cX4_copy 18 = .ok (.getfield 17, 3) := by decide +kernel
theorem dX4_copy_21 : decode cX4_copy 21 = .ok (.iload_n 1, 1) := by decide +kernel
theorem dX4_copy_22 : decode cX4_copy 22 = .ok (.aaload, 1) := by decide +kernel
theorem dX4_copy_23 : decode cX4_copy 23 = .ok (.astore 6, 2) := by decide +kernel
theorem dX4_copy_25 : decode cX4_copy 25 = .ok (.aload_n 0, 1) := by decide +kernel
theorem dX4_copy_26 : decode cX4_copy 26 = .ok (.getfield 17, 3) := by decide +kernel
theorem dX4_copy_29 : decode cX4_copy 29 = .ok (.iload_n 3, 1) := by decide +kernel
theorem dX4_copy_30 : decode cX4_copy 30 = .ok (.aaload, 1) := by decide +kernel
theorem dX4_copy_31 : decode cX4_copy 31 = .ok (.astore 7, 2) := by decide +kernel
theorem dX4_copy_33 : decode cX4_copy 33 = .ok (.aload 6, 2) := by decide +kernel
theorem dX4_copy_35 : decode cX4_copy 35 = .ok (.invokevirtual 252, 3) := by decide +kernel
theorem dX4_copy_38 : decode cX4_copy 38 = .ok (.ifCond .ne 11, 3) := by decide +kernel
theorem dX4_copy_41 : decode cX4_copy 41 = .ok (.aload 7, 2) := by decide +kernel
theorem dX4_copy_43 : decode cX4_copy 43 = .ok (.invokevirtual 252, 3) := by decide +kernel
theorem dX4_copy_46 : decode cX4_copy 46 = .ok (.ifCond .eq 6, 3) := by decide +kernel
theorem dX4_copy_49 : decode cX4_copy 49 = .ok (.bipush (-11), 2) := by decide +kernel
theorem dX4_copy_51 : decode cX4_copy 51 = .ok (.ireturn, 1) := by decide +kernel
theorem dX4_copy_52 : decode cX4_copy 52 = .ok (.aload 6, 2) := by decide +kernel
theorem dX4_copy_54 : decode cX4_copy 54 = .ok (.getfield 256, 3) := by decide +kernel
theorem dX4_copy_57 : decode cX4_copy 57 = .ok (.aload 7, 2) := by decide +kernel
theorem dX4_copy_59 : decode cX4_copy 59 = .ok (.getfield 256, 3) := by decide +kernel
theorem dX4_copy_62 : decode cX4_copy 62 = .ok (.if_icmp .eq 6, 3) := by decide +kernel
theorem dX4_copy_65 : decode cX4_copy 65 = .ok (.bipush (-13), 2) := by decide +kernel
theorem dX4_copy_67 : decode cX4_copy 67 = .ok (.ireturn, 1) := by decide +kernel
theorem dX4_copy_68 : decode cX4_copy 68 = .ok (.aload 6, 2) := by decide +kernel
theorem dX4_copy_70 : decode cX4_copy 70 = .ok (.iload_n 2, 1) := by decide +kernel
theorem dX4_copy_71 : decode cX4_copy 71 = .ok (.iload 5, 2) := by decide +kernel
theorem dX4_copy_73 : decode cX4_copy 73 = .ok (.invokevirtual 259, 3) := by decide +kernel
theorem dX4_copy_76 : decode cX4_copy 76 = .ok (.ifCond .eq 15, 3) := by decide +kernel
theorem dX4_copy_79 : decode cX4_copy 79 = .ok (.aload 7, 2) := by decide +kernel
theorem dX4_copy_81 : decode cX4_copy 81 = .ok (.iload 4, 2) := by decide +kernel
theorem dX4_copy_83 : decode cX4_copy 83 = .ok (.iload 5, 2) := by decide +kernel
theorem dX4_copy_85 : decode cX4_copy 85 = .ok (.invokevirtual 259, 3) := by decide +kernel
theorem dX4_copy_88 : decode cX4_copy 88 = .ok (.ifCond .ne 6, 3) := by decide +kernel
theorem dX4_copy_91 : decode cX4_copy 91 = .ok (.bipush (-12), 2) := by decide +kernel
theorem dX4_copy_93 : decode cX4_copy 93 = .ok (.ireturn, 1) := by decide +kernel
theorem dX4_copy_94 : decode cX4_copy 94 = .ok (.aload 6, 2) := by decide +kernel
theorem dX4_copy_96 : decode cX4_copy 96 = .ok (.getfield 262, 3) := by decide +kernel
theorem dX4_copy_99 : decode cX4_copy 99 = .ok (.iload_n 2, 1) := by decide +kernel
theorem dX4_copy_100 : decode cX4_copy 100 = .ok (.aload 7, 2) := by decide +kernel
theorem dX4_copy_102 : decode cX4_copy 102 = .ok (.getfield 262, 3) := by decide +kernel
theorem dX4_copy_105 : decode cX4_copy 105 = .ok (.iload 4, 2) := by decide +kernel
theorem dX4_copy_107 : decode cX4_copy 107 = .ok (.iload 5, 2) := by decide +kernel
theorem dX4_copy_109 : decode cX4_copy 109 = .ok (.invokestatic 265, 3) := by decide +kernel
theorem dX4_copy_112 : decode cX4_copy 112 = .ok (.iload 5, 2) := by decide +kernel
theorem dX4_copy_114 : decode cX4_copy 114 = .ok (.ireturn, 1) := by decide +kernel
abbrev cX4_heap : ByteArray := prog_1_method_30_code
abbrev mX4_heap : MethodName := { cls := "KinInTheHeap", name := "heap", desc := "(IIII)I" }
theorem mwX4_heap : MWV mX4_heap (.code mX4_heap cX4_heap 6 (some .int)) "KinInTheHeap" 4 := ⟨w924, w922, w923, w98, w98, by decide +kernel⟩
theorem dX4_heap_0 : decode cX4_heap 0 = .ok (.iload_n 1, 1) := by decide +kernel
theorem dX4_heap_1 : decode cX4_heap 1 = .ok (.invokestatic 130, 3) := by decide +kernel
theorem dX4_heap_4 : decode cX4_heap 4 = .ok (.ifCond .eq 23, 3) := by decide +kernel
theorem dX4_heap_7 : decode cX4_heap 7 = .ok (.iload_n 2, 1) := by decide +kernel
theorem dX4_heap_8 : decode cX4_heap 8 = .ok (.iconst 0, 1) := by decide +kernel
theorem dX4_heap_9 : decode cX4_heap 9 = .ok (.iconst 2, 1) := by decide +kernel
theorem dX4_heap_10 : decode cX4_heap 10 = .ok (.invokestatic 101, 3) := by decide +kernel
theorem dX4_heap_13 : decode cX4_heap 13 = .ok (.ifCond .eq 14, 3) := by decide +kernel
theorem dX4_heap_16 : decode cX4_heap 16 = .ok (.iload 4, 2) := by decide +kernel
theorem dX4_heap_18 : decode cX4_heap 18 = .ok (.iconst 0, 1) := by decide +kernel
theorem dX4_heap_19 : decode cX4_heap 19 = .ok (.bipush 8, 2) := by decide +kernel
theorem dX4_heap_21 : decode cX4_heap 21 = .ok (.invokestatic 101, 3) := by decide +kernel
theorem dX4_heap_24 : decode cX4_heap 24 = .ok (.ifCond .ne 6, 3) := by decide +kernel
theorem dX4_heap_27 : decode cX4_heap 27 = .ok (.bipush (-2), 2) := by decide +kernel
theorem dX4_heap_29 : decode cX4_heap 29 = .ok (.ireturn, 1) := by decide +kernel
theorem dX4_heap_30 : decode cX4_heap 30 = .ok (.aload_n 0, 1) := by decide +kernel
theorem dX4_heap_31 : decode cX4_heap 31 = .ok (.getfield 17, 3) := by decide +kernel
theorem dX4_heap_34 : decode cX4_heap 34 = .ok (.iload_n 1, 1) := by decide +kernel
theorem dX4_heap_35 : decode cX4_heap 35 = .ok (.aaload, 1) := by decide +kernel
theorem dX4_heap_36 : decode cX4_heap 36 = .ok (.astore 5, 2) := by decide +kernel
theorem dX4_heap_38 : decode cX4_heap 38 = .ok (.aload 5, 2) := by decide +kernel
theorem dX4_heap_40 : decode cX4_heap 40 = .ok (.invokevirtual 252, 3) := by decide +kernel
theorem dX4_heap_43 : decode cX4_heap 43 = .ok (.ifCond .eq 6, 3) := by decide +kernel
theorem dX4_heap_46 : decode cX4_heap 46 = .ok (.bipush (-11), 2) := by decide +kernel
theorem dX4_heap_48 : decode cX4_heap 48 = .ok (.ireturn, 1) := by decide +kernel
theorem dX4_heap_49 : decode cX4_heap 49 = .ok (.aload 5, 2) := by decide +kernel
theorem dX4_heap_51 : decode cX4_heap 51 = .ok (.getfield 256, 3) := by decide +kernel
theorem dX4_heap_54 : decode cX4_heap 54 = .ok (.iload_n 2, 1) := by decide +kernel
theorem dX4_heap_55 : decode cX4_heap 55 = .ok (.if_icmp .ne 15, 3) := by decide +kernel
theorem dX4_heap_58 : decode cX4_heap 58 = .ok (.aload_n 0, 1) := by decide +kernel
theorem dX4_heap_59 : decode cX4_heap 59 = .ok (.aload 5, 2) := by decide +kernel
theorem dX4_heap_61 : decode cX4_heap 61 = .ok (.iload_n 3, 1) := by decide +kernel
theorem dX4_heap_62 : decode cX4_heap 62 = .ok (.iload 4, 2) := by decide +kernel
theorem dX4_heap_64 : decode cX4_heap 64 = .ok (.invokevirtual 271, 3) := by decide +kernel
theorem dX4_heap_67 : decode cX4_heap 67 = .ok (.goto 5, 3) := by decide +kernel
theorem dX4_heap_70 : decode cX4_heap 70 = .ok (.bipush (-13), 2) := by decide +kernel
theorem dX4_heap_72 : decode cX4_heap 72 = .ok (.ireturn, 1) := by decide +kernel
abbrev cX4_taken : ByteArray := prog_1_method_31_code
abbrev mX4_taken : MethodName := { cls := "KinInTheHeap", name := "taken", desc := "(II)I" }
theorem mwX4_taken : MWV mX4_taken (.code mX4_taken cX4_taken 3 (some .int)) "KinInTheHeap" 2 := ⟨w933, w931, w932, w98, w98, by decide +kernel⟩
theorem dX4_taken_0 : decode cX4_taken 0 = .ok (.iload_n 2, 1) := by decide +kernel
theorem dX4_taken_1 : decode cX4_taken 1 = .ok (.iconst 0, 1) := by decide +kernel
theorem dX4_taken_2 : decode cX4_taken 2 = .ok (.iconst 5, 1) := by decide +kernel
theorem dX4_taken_3 : decode cX4_taken 3 = .ok (.invokestatic 101, 3) := by decide +kernel
theorem dX4_taken_6 : decode cX4_taken 6 = .ok (.ifCond .ne 6, 3) := by decide +kernel
theorem dX4_taken_9 : decode cX4_taken 9 = .ok (.bipush (-2), 2) := by decide +kernel
theorem dX4_taken_11 : decode cX4_taken 11 = .ok (.ireturn, 1) := by decide +kernel
theorem dX4_taken_12 : decode cX4_taken 12 = .ok (.aload_n 0, 1) := by decide +kernel
theorem dX4_taken_13 : decode cX4_taken 13 = .ok (.getfield 42, 3) := by decide +kernel
theorem dX4_taken_16 : decode cX4_taken 16 = .ok (.iload_n 1, 1) := by decide +kernel
theorem dX4_taken_17 : decode cX4_taken 17 = .ok (.invokevirtual 91, 3) := by decide +kernel
theorem dX4_taken_20 : decode cX4_taken 20 = .ok (.ifCond .ne 6, 3) := by decide +kernel
theorem dX4_taken_23 : decode cX4_taken 23 = .ok (.bipush (-11), 2) := by decide +kernel
theorem dX4_taken_25 : decode cX4_taken 25 = .ok (.ireturn, 1) := by decide +kernel
theorem dX4_taken_26 : decode cX4_taken 26 = .ok (.aload_n 0, 1) := by decide +kernel
theorem dX4_taken_27 : decode cX4_taken 27 = .ok (.getfield 42, 3) := by decide +kernel
theorem dX4_taken_30 : decode cX4_taken 30 = .ok (.getfield 274, 3) := by decide +kernel
theorem dX4_taken_33 : decode cX4_taken 33 = .ok (.iload_n 1, 1) := by decide +kernel
theorem dX4_taken_34 : decode cX4_taken 34 = .ok (.iaload, 1) := by decide +kernel
theorem dX4_taken_35 : decode cX4_taken 35 = .ok (.iload_n 2, 1) := by decide +kernel
theorem dX4_taken_36 : decode cX4_taken 36 = .ok (.invokestatic 277, 3) := by decide +kernel
theorem dX4_taken_39 : decode cX4_taken 39 = .ok (.ifCond .eq 15, 3) := by decide +kernel
theorem dX4_taken_42 : decode cX4_taken 42 = .ok (.aload_n 0, 1) := by decide +kernel
theorem dX4_taken_43 : decode cX4_taken 43 = .ok (.getfield 42, 3) := by decide +kernel
theorem dX4_taken_46 : decode cX4_taken 46 = .ok (.getfield 280, 3) := by decide +kernel
theorem dX4_taken_49 : decode cX4_taken 49 = .ok (.iload_n 1, 1) := by decide +kernel
theorem dX4_taken_50 : decode cX4_taken 50 = .ok (.iaload, 1) := by decide +kernel
theorem dX4_taken_51 : decode cX4_taken 51 = .ok (.goto 5, 3) := by decide +kernel
theorem dX4_taken_54 : decode cX4_taken 54 = .ok (.bipush (-13), 2) := by decide +kernel
theorem dX4_taken_56 : decode cX4_taken 56 = .ok (.ireturn, 1) := by decide +kernel
abbrev cX4_within : ByteArray := prog_1_method_32_code
abbrev mX4_within : MethodName := { cls := "KinInTheHeap", name := "within", desc := "(III)Z" }
theorem mwX4_within : MWS mX4_within (.code mX4_within cX4_within 3 (some .boolean)) 3 := ⟨w302, w301, w98, by decide +kernel⟩
theorem dX4_within_0 : decode cX4_within 0 = .ok (.iload_n 0, 1) := by decide +kernel
theorem dX4_within_1 : decode cX4_within 1 = .ok (.iload_n 1, 1) := by decide +kernel
theorem dX4_within_2 : decode cX4_within 2 = .ok (.if_icmp .lt 12, 3) := by decide +kernel
theorem dX4_within_5 : decode cX4_within 5 = .ok (.iload_n 0, 1) := by decide +kernel
theorem dX4_within_6 : decode cX4_within 6 = .ok (.iload_n 2, 1) := by decide +kernel
theorem dX4_within_7 : decode cX4_within 7 = .ok (.if_icmp .gt 7, 3) := by decide +kernel
theorem dX4_within_10 : decode cX4_within 10 = .ok (.iconst 1, 1) := by decide +kernel
theorem dX4_within_11 : decode cX4_within 11 = .ok (.goto 4, 3) := by decide +kernel
theorem dX4_within_14 : decode cX4_within 14 = .ok (.iconst 0, 1) := by decide +kernel
theorem dX4_within_15 : decode cX4_within 15 = .ok (.ireturn, 1) := by decide +kernel
abbrev cX4_isStroke : ByteArray := prog_1_method_33_code
abbrev mX4_isStroke : MethodName := { cls := "KinInTheHeap", name := "isStroke", desc := "(I)Z" }
theorem mwX4_isStroke : MWS mX4_isStroke (.code mX4_isStroke cX4_isStroke 1 (some .boolean)) 1 := ⟨w638, w637, w98, by decide +kernel⟩
theorem dX4_isStroke_0 : decode cX4_isStroke 0 = .ok (.iload_n 0, 1) := by decide +kernel
theorem dX4_isStroke_1 : decode cX4_isStroke 1 = .ok (.iconst 0, 1) := by decide +kernel
theorem dX4_isStroke_2 : decode cX4_isStroke 2 = .ok (.bipush 23, 2) := by decide +kernel
theorem dX4_isStroke_4 : decode cX4_isStroke 4 = .ok (.invokestatic 101, 3) := by decide +kernel
theorem dX4_isStroke_7 : decode cX4_isStroke 7 = .ok (.ireturn, 1) := by decide +kernel
abbrev cX4_isSheet : ByteArray := prog_1_method_34_code
abbrev mX4_isSheet : MethodName := { cls := "KinInTheHeap", name := "isSheet", desc := "(I)Z" }
theorem mwX4_isSheet : MWS mX4_isSheet (.code mX4_isSheet cX4_isSheet 1 (some .boolean)) 1 := ⟨w675, w674, w98, by decide +kernel⟩
theorem dX4_isSheet_0 : decode cX4_isSheet 0 = .ok (.iload_n 0, 1) := by decide +kernel
theorem dX4_isSheet_1 : decode cX4_isSheet 1 = .ok (.iconst 0, 1) := by decide +kernel
theorem dX4_isSheet_2 : decode cX4_isSheet 2 = .ok (.iconst 3, 1) := by decide +kernel
theorem dX4_isSheet_3 : decode cX4_isSheet 3 = .ok (.invokestatic 101, 3) := by decide +kernel
theorem dX4_isSheet_6 : decode cX4_isSheet 6 = .ok (.ireturn, 1) := by decide +kernel
abbrev cX4_isCell : ByteArray := prog_1_method_35_code
abbrev mX4_isCell : MethodName := { cls := "KinInTheHeap", name := "isCell", desc := "(I)Z" }
theorem mwX4_isCell : MWS mX4_isCell (.code mX4_isCell cX4_isCell 1 (some .boolean)) 1 := ⟨w313, w312, w98, by decide +kernel⟩
theorem dX4_isCell_0 : decode cX4_isCell 0 = .ok (.iload_n 0, 1) := by decide +kernel
theorem dX4_isCell_1 : decode cX4_isCell 1 = .ok (.iconst 0, 1) := by decide +kernel
theorem dX4_isCell_2 : decode cX4_isCell 2 = .ok (.bipush 35, 2) := by decide +kernel
theorem dX4_isCell_4 : decode cX4_isCell 4 = .ok (.invokestatic 101, 3) := by decide +kernel
theorem dX4_isCell_7 : decode cX4_isCell 7 = .ok (.ireturn, 1) := by decide +kernel
abbrev cX4_isDust : ByteArray := prog_1_method_36_code
abbrev mX4_isDust : MethodName := { cls := "KinInTheHeap", name := "isDust", desc := "(III)Z" }
theorem mwX4_isDust : MWS mX4_isDust (.code mX4_isDust cX4_isDust 3 (some .boolean)) 3 := ⟨w338, w337, w98, by decide +kernel⟩
theorem dX4_isDust_0 : decode cX4_isDust 0 = .ok (.iload_n 0, 1) := by decide +kernel
theorem dX4_isDust_1 : decode cX4_isDust 1 = .ok (.iconst 0, 1) := by decide +kernel
theorem dX4_isDust_2 : decode cX4_isDust 2 = .ok (.iconst 5, 1) := by decide +kernel
theorem dX4_isDust_3 : decode cX4_isDust 3 = .ok (.invokestatic 101, 3) := by decide +kernel
theorem dX4_isDust_6 : decode cX4_isDust 6 = .ok (.ifCond .eq 24, 3) := by decide +kernel
theorem dX4_isDust_9 : decode cX4_isDust 9 = .ok (.iload_n 1, 1) := by decide +kernel
theorem dX4_isDust_10 : decode cX4_isDust 10 = .ok (.iconst 0, 1) := by decide +kernel
theorem dX4_isDust_11 : decode cX4_isDust 11 = .ok (.bipush 9, 2) := by decide +kernel
theorem dX4_isDust_13 : decode cX4_isDust 13 = .ok (.invokestatic 101, 3) := by decide +kernel
theorem dX4_isDust_16 : decode cX4_isDust 16 = .ok (.ifCond .eq 14, 3) := by decide +kernel
theorem dX4_isDust_19 : decode cX4_isDust 19 = .ok (.iload_n 2, 1) := by decide +kernel
theorem dX4_isDust_20 : decode cX4_isDust 20 = .ok (.invokestatic 283, 3) := by decide +kernel
theorem dX4_isDust_23 : decode cX4_isDust 23 = .ok (.ifCond .eq 7, 3) := by decide +kernel
theorem dX4_isDust_26 : decode cX4_isDust 26 = .ok (.iconst 1, 1) := by decide +kernel
theorem dX4_isDust_27 : decode cX4_isDust 27 = .ok (.goto 4, 3) := by decide +kernel
theorem dX4_isDust_30 : decode cX4_isDust 30 = .ok (.iconst 0, 1) := by decide +kernel
theorem dX4_isDust_31 : decode cX4_isDust 31 = .ok (.ireturn, 1) := by decide +kernel
abbrev cX4_isSweepWhat : ByteArray := prog_1_method_37_code
abbrev mX4_isSweepWhat : MethodName := { cls := "KinInTheHeap", name := "isSweepWhat", desc := "(I)Z" }
theorem mwX4_isSweepWhat : MWV mX4_isSweepWhat (.code mX4_isSweepWhat cX4_isSweepWhat 2 (some .boolean)) "KinInTheHeap" 1 := ⟨w679, w678, w28, w98, w98, by decide +kernel⟩
theorem dX4_isSweepWhat_0 : decode cX4_isSweepWhat 0 = .ok (.iload_n 1, 1) := by decide +kernel
theorem dX4_isSweepWhat_1 : decode cX4_isSweepWhat 1 = .ok (.iconst 0, 1) := by decide +kernel
theorem dX4_isSweepWhat_2 : decode cX4_isSweepWhat 2 = .ok (.iconst 3, 1) := by decide +kernel
theorem dX4_isSweepWhat_3 : decode cX4_isSweepWhat 3 = .ok (.invokestatic 101, 3) := by decide +kernel
theorem dX4_isSweepWhat_6 : decode cX4_isSweepWhat 6 = .ok (.ifCond .ne 23, 3) := by decide +kernel
theorem dX4_isSweepWhat_9 : decode cX4_isSweepWhat 9 = .ok (.iload_n 1, 1) := by decide +kernel
theorem dX4_isSweepWhat_10 : decode cX4_isSweepWhat 10 = .ok (.bipush 10, 2) := by decide +kernel
theorem dX4_isSweepWhat_12 : decode cX4_isSweepWhat 12 = .ok (.if_icmp .lt 21, 3) := by decide +kernel
theorem dX4_isSweepWhat_15 : decode cX4_isSweepWhat 15 = .ok (.aload_n 0, 1) := by decide +kernel
theorem dX4_isSweepWhat_16 : decode cX4_isSweepWhat 16 = .ok (.getfield 42, 3) := by decide +kernel
theorem dX4_isSweepWhat_19 : decode cX4_isSweepWhat 19 = .ok (.iload_n 1, 1) := by decide +kernel
theorem dX4_isSweepWhat_20 : decode cX4_isSweepWhat 20 = .ok (.bipush 10, 2) := by decide +kernel
theorem dX4_isSweepWhat_22 : decode cX4_isSweepWhat 22 = .ok (.isub, 1) := by decide +kernel
theorem dX4_isSweepWhat_23 : decode cX4_isSweepWhat 23 = .ok (.invokevirtual 91, 3) := by decide +kernel
theorem dX4_isSweepWhat_26 : decode cX4_isSweepWhat 26 = .ok (.ifCond .eq 7, 3) := by decide +kernel
theorem dX4_isSweepWhat_29 : decode cX4_isSweepWhat 29 = .ok (.iconst 1, 1) := by decide +kernel
theorem dX4_isSweepWhat_30 : decode cX4_isSweepWhat 30 = .ok (.goto 4, 3) := by decide +kernel
theorem dX4_isSweepWhat_33 : decode cX4_isSweepWhat 33 = .ok (.iconst 0, 1) := by decide +kernel
theorem dX4_isSweepWhat_34 : decode cX4_isSweepWhat 34 = .ok (.ireturn, 1) := by decide +kernel
abbrev cX4_setWeek : ByteArray := prog_1_method_38_code
abbrev mX4_setWeek : MethodName := { cls := "KinInTheHeap", name := "setWeek", desc := "(I)I" }
theorem mwX4_setWeek : MWV mX4_setWeek (.code mX4_setWeek cX4_setWeek 3 (some .int)) "KinInTheHeap" 1 := ⟨w299, w298, w0, w98, w98, by decide +kernel⟩
theorem dX4_setWeek_0 : decode cX4_setWeek 0 = .ok (.iload_n 1, 1) := by decide +kernel
theorem dX4_setWeek_1 : decode cX4_setWeek 1 = .ok (.iconst 0, 1) := by decide +kernel
theorem dX4_setWeek_2 : decode cX4_setWeek 2 = .ok (.sipush 999, 3) := by decide +kernel
theorem dX4_setWeek_5 : decode cX4_setWeek 5 = .ok (.invokestatic 101, 3) := by decide +kernel
theorem dX4_setWeek_8 : decode cX4_setWeek 8 = .ok (.ifCond .ne 7, 3) := by decide +kernel
theorem dX4_setWeek_11 : decode cX4_setWeek 11 = .ok (.sipush (-1000), 3) := by decide +kernel
theorem dX4_setWeek_14 : decode cX4_setWeek 14 = .ok (.ireturn, 1) := by decide +kernel
theorem dX4_setWeek_15 : decode cX4_setWeek 15 = .ok (.aload_n 0, 1) := by decide +kernel
theorem dX4_setWeek_16 : decode cX4_setWeek 16 = .ok (.getfield 42, 3) := by decide +kernel
theorem dX4_setWeek_19 : decode cX4_setWeek 19 = .ok (.getfield 82, 3) := by decide +kernel
theorem dX4_setWeek_22 : decode cX4_setWeek 22 = .ok (.istore_n 2, 1) := by decide +kernel
theorem dX4_setWeek_23 : decode cX4_setWeek 23 = .ok (.aload_n 0, 1) := by decide +kernel
theorem dX4_setWeek_24 : decode cX4_setWeek 24 = .ok (.getfield 42, 3) := by decide +kernel
theorem dX4_setWeek_27 : decode cX4_setWeek 27 = .ok (.iload_n 1, 1) := by decide +kernel
theorem dX4_setWeek_28 : decode cX4_setWeek 28 = .ok (.putfield 82, 3) := by decide +kernel
theorem dX4_setWeek_31 : decode cX4_setWeek 31 = .ok (.iload_n 2, 1) := by decide +kernel
theorem dX4_setWeek_32 : decode cX4_setWeek 32 = .ok (.ireturn, 1) := by decide +kernel
abbrev cX4_setForce : ByteArray := prog_1_method_39_code
abbrev mX4_setForce : MethodName := { cls := "KinInTheHeap", name := "setForce", desc := "(I)I" }
theorem mwX4_setForce : MWV mX4_setForce (.code mX4_setForce cX4_setForce 3 (some .int)) "KinInTheHeap" 1 := ⟨w306, w305, w1, w98, w98, by decide +kernel⟩
theorem dX4_setForce_0 : decode cX4_setForce 0 = .ok (.iload_n 1, 1) := by decide +kernel
theorem dX4_setForce_1 : decode cX4_setForce 1 = .ok (.iconst 0, 1) := by decide +kernel
theorem dX4_setForce_2 : decode cX4_setForce 2 = .ok (.bipush 9, 2) := by decide +kernel
theorem dX4_setForce_4 : decode cX4_setForce 4 = .ok (.invokestatic 101, 3) := by decide +kernel
theorem dX4_setForce_7 : decode cX4_setForce 7 = .ok (.ifCond .ne 7, 3) := by decide +kernel
theorem dX4_setForce_10 : decode cX4_setForce 10 = .ok (.sipush (-1000), 3) := by decide +kernel
theorem dX4_setForce_13 : decode cX4_setForce 13 = .ok (.ireturn, 1) := by decide +kernel
theorem dX4_setForce_14 : decode cX4_setForce 14 = .ok (.aload_n 0, 1) := by decide +kernel
theorem dX4_setForce_15 : decode cX4_setForce 15 = .ok (.getfield 42, 3) := by decide +kernel
theorem dX4_setForce_18 : decode cX4_setForce 18 = .ok (.getfield 85, 3) := by decide +kernel
theorem dX4_setForce_21 : decode cX4_setForce 21 = .ok (.istore_n 2, 1) := by decide +kernel
theorem dX4_setForce_22 : decode cX4_setForce 22 = .ok (.aload_n 0, 1) := by decide +kernel
theorem dX4_setForce_23 : decode cX4_setForce 23 = .ok (.getfield 42, 3) := by decide +kernel
theorem dX4_setForce_26 : decode cX4_setForce 26 = .ok (.iload_n 1, 1) := by decide +kernel
theorem dX4_setForce_27 : decode cX4_setForce 27 = .ok (.putfield 85, 3) := by decide +kernel
theorem dX4_setForce_30 : decode cX4_setForce 30 = .ok (.iload_n 2, 1) := by decide +kernel
theorem dX4_setForce_31 : decode cX4_setForce 31 = .ok (.ireturn, 1) := by decide +kernel
abbrev cX4_setCrack : ByteArray := prog_1_method_40_code
abbrev mX4_setCrack : MethodName := { cls := "KinInTheHeap", name := "setCrack", desc := "(II)I" }
theorem mwX4_setCrack : MWV mX4_setCrack (.code mX4_setCrack cX4_setCrack 4 (some .int)) "KinInTheHeap" 2 := ⟨w310, w309, w2, w98, w98, by decide +kernel⟩
theorem dX4_setCrack_0 : decode cX4_setCrack 0 = .ok (.iload_n 1, 1) := by decide +kernel
theorem dX4_setCrack_1 : decode cX4_setCrack 1 = .ok (.invokestatic 283, 3) := by decide +kernel
theorem dX4_setCrack_4 : decode cX4_setCrack 4 = .ok (.ifCond .eq 12, 3) := by decide +kernel
theorem dX4_setCrack_7 : decode cX4_setCrack 7 = .ok (.iload_n 2, 1) := by decide +kernel
theorem dX4_setCrack_8 : decode cX4_setCrack 8 = .ok (.iconst 0, 1) := by decide +kernel
theorem dX4_setCrack_9 : decode cX4_setCrack 9 = .ok (.iconst 1, 1) := by decide +kernel
theorem dX4_setCrack_10 : decode cX4_setCrack 10 = .ok (.invokestatic 101, 3) := by decide +kernel
theorem dX4_setCrack_13 : decode cX4_setCrack 13 = .ok (.ifCond .ne 7, 3) := by decide +kernel
theorem dX4_setCrack_16 : decode cX4_setCrack 16 = .ok (.sipush (-1000), 3) := by decide +kernel
theorem dX4_setCrack_19 : decode cX4_setCrack 19 = .ok (.ireturn, 1) := by decide +kernel
theorem dX4_setCrack_20 : decode cX4_setCrack 20 = .ok (.aload_n 0, 1) := by decide +kernel
theorem dX4_setCrack_21 : decode cX4_setCrack 21 = .ok (.getfield 42, 3) := by decide +kernel
theorem dX4_setCrack_24 : decode cX4_setCrack 24 = .ok (.iload_n 1, 1) := by decide +kernel
theorem dX4_setCrack_25 : decode cX4_setCrack 25 = .ok (.invokevirtual 286, 3) := by decide +kernel
theorem dX4_setCrack_28 : decode cX4_setCrack 28 = .ok (.ifCond .eq 7, 3) := by decide +kernel
theorem dX4_setCrack_31 : decode cX4_setCrack 31 = .ok (.iconst 1, 1) := by decide +kernel
theorem dX4_setCrack_32 : decode cX4_setCrack 32 = .ok (.goto 4, 3) := by decide +kernel
theorem dX4_setCrack_35 : decode cX4_setCrack 35 = .ok (.iconst 0, 1) := by decide +kernel
theorem dX4_setCrack_36 : decode cX4_setCrack 36 = .ok (.istore_n 3, 1) := by decide +kernel
theorem dX4_setCrack_37 : decode cX4_setCrack 37 = .ok (.aload_n 0, 1) := by decide +kernel
theorem dX4_setCrack_38 : decode cX4_setCrack 38 = .ok (.getfield 42, 3) := by decide +kernel
theorem dX4_setCrack_41 : decode cX4_setCrack 41 = .ok (.iload_n 2, 1) := by decide +kernel
theorem dX4_setCrack_42 : decode cX4_setCrack 42 = .ok (.iconst 1, 1) := by decide +kernel
theorem dX4_setCrack_43 : decode cX4_setCrack 43 = .ok (.if_icmp .ne 17, 3) := by decide +kernel
theorem dX4_setCrack_46 : decode cX4_setCrack 46 = .ok (.aload_n 0, 1) := by decide +kernel
theorem dX4_setCrack_47 : decode cX4_setCrack 47 = .ok (.getfield 42, 3) := by decide +kernel
theorem dX4_setCrack_50 : decode cX4_setCrack 50 = .ok (.getfield 175, 3) := by decide +kernel
theorem dX4_setCrack_53 : decode cX4_setCrack 53 = .ok (.lconst 1, 1) := by decide +kernel
theorem dX4_setCrack_54 : decode cX4_setCrack 54 = .ok (.iload_n 1, 1) := by decide +kernel
theorem dX4_setCrack_55 : decode cX4_setCrack 55 = .ok (.lshl, 1) := by decide +kernel
theorem dX4_setCrack_56 : decode cX4_setCrack 56 = .ok (.lor, 1) := by decide +kernel
theorem dX4_setCrack_57 : decode cX4_setCrack 57 = .ok (.goto 18, 3) := by decide +kernel
theorem dX4_setCrack_60 : decode cX4_setCrack 60 = .ok (.aload_n 0, 1) := by decide +kernel
theorem dX4_setCrack_61 : decode cX4_setCrack 61 = .ok (.getfield 42, 3) := by decide +kernel
theorem dX4_setCrack_64 : decode cX4_setCrack 64 = .ok (.getfield 175, 3) := by decide +kernel
theorem dX4_setCrack_67 : decode cX4_setCrack 67 = .ok (.lconst 1, 1) := by decide +kernel
theorem dX4_setCrack_68 : decode cX4_setCrack 68 = .ok (.iload_n 1, 1) := by decide +kernel
theorem dX4_setCrack_69 : decode cX4_setCrack 69 = .ok (.lshl, 1) := by decide +kernel
theorem dX4_setCrack_70 : decode cX4_setCrack 70 = .ok (.ldc2_w 289, 3) := by decide +kernel
theorem dX4_setCrack_73 : decode cX4_setCrack 73 = .ok (.lxor, 1) := by decide +kernel
theorem dX4_setCrack_74 : decode cX4_setCrack 74 = .ok (.land, 1) := by decide +kernel
theorem dX4_setCrack_75 : decode cX4_setCrack 75 = .ok (.putfield 175, 3) := by decide +kernel
theorem dX4_setCrack_78 : decode cX4_setCrack 78 = .ok (.iload_n 3, 1) := by decide +kernel
theorem dX4_setCrack_79 : decode cX4_setCrack 79 = .ok (.ireturn, 1) := by decide +kernel
