abbrev cX5_sweeps : ByteArray := prog_7_method_60_code
abbrev mX5_sweeps : MethodName := { cls := "KinInTheHeapModel", name := "sweeps", desc := "(I)I" }
theorem mwX5_sweeps : MWV mX5_sweeps (.code mX5_sweeps cX5_sweeps 3 (some .int)) "KinInTheHeapModel" 1 := ⟨w1310, w1308, w1309, w103, w103, by decide +kernel⟩
theorem dX5_sweeps_0 : decode cX5_sweeps 0 = .ok (.iload_n 1, 1) := by decide +kernel
theorem dX5_sweeps_1 : decode cX5_sweeps 1 = .ok (.invokestatic 294, 3) := by decide +kernel
theorem dX5_sweeps_4 : decode cX5_sweeps 4 = .ok (.ifCond .ne 6, 3) := by decide +kernel
theorem dX5_sweeps_7 : decode cX5_sweeps 7 = .ok (.bipush (-2), 2) := by decide +kernel
theorem dX5_sweeps_9 : decode cX5_sweeps 9 = .ok (.ireturn, 1) := by decide +kernel
theorem dX5_sweeps_10 : decode cX5_sweeps 10 = .ok (.aload_n 0, 1) := by decide +kernel
theorem dX5_sweeps_11 : decode cX5_sweeps 11 = .ok (.iload_n 1, 1) := by decide +kernel
theorem dX5_sweeps_12 : decode cX5_sweeps 12 = .ok (.invokevirtual 301, 3) := by decide +kernel
theorem dX5_sweeps_15 : decode cX5_sweeps 15 = .ok (.istore_n 2, 1) := by decide +kernel
theorem dX5_sweeps_16 : decode cX5_sweeps 16 = .ok (.iload_n 2, 1) := by decide +kernel
theorem dX5_sweeps_17 : decode cX5_sweeps 17 = .ok (.ifCond .ne 11, 3) := by decide +kernel
theorem dX5_sweeps_20 : decode cX5_sweeps 20 = .ok (.aload_n 0, 1) := by decide +kernel
theorem dX5_sweeps_21 : decode cX5_sweeps 21 = .ok (.iload_n 1, 1) := by decide +kernel
theorem dX5_sweeps_22 : decode cX5_sweeps 22 = .ok (.invokevirtual 307, 3) := by decide +kernel
theorem dX5_sweeps_25 : decode cX5_sweeps 25 = .ok (.goto 4, 3) := by decide +kernel
theorem dX5_sweeps_28 : decode cX5_sweeps 28 = .ok (.iload_n 2, 1) := by decide +kernel
theorem dX5_sweeps_29 : decode cX5_sweeps 29 = .ok (.ireturn, 1) := by decide +kernel
abbrev cX5_floor : ByteArray := prog_7_method_61_code
abbrev mX5_floor : MethodName := { cls := "KinInTheHeapModel", name := "floor", desc := "(I)I" }
theorem mwX5_floor : MWV mX5_floor (.code mX5_floor cX5_floor 2 (some .int)) "KinInTheHeapModel" 1 := ⟨w1314, w1312, w1313, w103, w103, by decide +kernel⟩
theorem dX5_floor_0 : decode cX5_floor 0 = .ok (.iload_n 1, 1) := by decide +kernel
theorem dX5_floor_1 : decode cX5_floor 1 = .ok (.i2l, 1) := by decide +kernel
theorem dX5_floor_2 : decode cX5_floor 2 = .ok (.lconst 0, 1) := by decide +kernel
theorem dX5_floor_3 : decode cX5_floor 3 = .ok (.ldc2_w 92, 3) := by decide +kernel
theorem dX5_floor_6 : decode cX5_floor 6 = .ok (.invokestatic 79, 3) := by decide +kernel
theorem dX5_floor_9 : decode cX5_floor 9 = .ok (.ifCond .ne 6, 3) := by decide +kernel
theorem dX5_floor_12 : decode cX5_floor 12 = .ok (.bipush (-2), 2) := by decide +kernel
theorem dX5_floor_14 : decode cX5_floor 14 = .ok (.ireturn, 1) := by decide +kernel
theorem dX5_floor_15 : decode cX5_floor 15 = .ok (.iload_n 1, 1) := by decide +kernel
theorem dX5_floor_16 : decode cX5_floor 16 = .ok (.ifCond .ne 10, 3) := by decide +kernel
theorem dX5_floor_19 : decode cX5_floor 19 = .ok (.aload_n 0, 1) := by decide +kernel
theorem dX5_floor_20 : decode cX5_floor 20 = .ok (.invokevirtual 313, 3) := by decide +kernel
theorem dX5_floor_23 : decode cX5_floor 23 = .ok (.goto 44, 3) := by decide +kernel
theorem dX5_floor_26 : decode cX5_floor 26 = .ok (.iload_n 1, 1) := by decide +kernel
theorem dX5_floor_27 : decode cX5_floor 27 = .ok (.iconst 1, 1) := by decide +kernel
theorem dX5_floor_28 : decode cX5_floor 28 = .ok (.if_icmp .ne 10, 3) := by decide +kernel
theorem dX5_floor_31 : decode cX5_floor 31 = .ok (.aload_n 0, 1) := by decide +kernel
theorem dX5_floor_32 : decode cX5_floor 32 = .ok (.invokevirtual 322, 3) := by decide +kernel
theorem dX5_floor_35 : decode cX5_floor 35 = .ok (.goto 32, 3) := by decide +kernel
theorem dX5_floor_38 : decode cX5_floor 38 = .ok (.iload_n 1, 1) := by decide +kernel
theorem dX5_floor_39 : decode cX5_floor 39 = .ok (.iconst 2, 1) := by decide +kernel
theorem dX5_floor_40 : decode cX5_floor 40 = .ok (.if_icmp .ne 10, 3) := by decide +kernel
theorem dX5_floor_43 : decode cX5_floor 43 = .ok (.aload_n 0, 1) := by decide +kernel
theorem dX5_floor_44 : decode cX5_floor 44 = .ok (.invokevirtual 310, 3) := by decide +kernel
theorem dX5_floor_47 : decode cX5_floor 47 = .ok (.goto 20, 3) := by decide +kernel
theorem dX5_floor_50 : decode cX5_floor 50 = .ok (.iload_n 1, 1) := by decide +kernel
theorem dX5_floor_51 : decode cX5_floor 51 = .ok (.iconst 3, 1) := by decide +kernel
theorem dX5_floor_52 : decode cX5_floor 52 = .ok (.if_icmp .ne 10, 3) := by decide +kernel
theorem dX5_floor_55 : decode cX5_floor 55 = .ok (.aload_n 0, 1) := by decide +kernel
theorem dX5_floor_56 : decode cX5_floor 56 = .ok (.invokevirtual 316, 3) := by decide +kernel
theorem dX5_floor_59 : decode cX5_floor 59 = .ok (.goto 8, 3) := by decide +kernel
theorem dX5_floor_62 : decode cX5_floor 62 = .ok (.aload_n 0, 1) := by decide +kernel
theorem dX5_floor_63 : decode cX5_floor 63 = .ok (.iconst (-1), 1) := by decide +kernel
theorem dX5_floor_64 : decode cX5_floor 64 = .ok (.invokevirtual 124, 3) := by decide +kernel
theorem dX5_floor_67 : decode cX5_floor 67 = .ok (.ireturn, 1) := by decide +kernel
abbrev cX5_comes : ByteArray := prog_7_method_62_code
abbrev mX5_comes : MethodName := { cls := "KinInTheHeapModel", name := "comes", desc := "(I)J" }
theorem mwX5_comes : MWV mX5_comes (.code mX5_comes cX5_comes 5 (some .long)) "KinInTheHeapModel" 1 := ⟨w1327, w1326, w87, w103, w103, by decide +kernel⟩
theorem dX5_comes_0 : decode cX5_comes 0 = .ok (.aload_n 0, 1) := by decide +kernel
theorem dX5_comes_1 : decode cX5_comes 1 = .ok (.invokevirtual 304, 3) := by decide +kernel
theorem dX5_comes_4 : decode cX5_comes 4 = .ok (.lconst 0, 1) := by decide +kernel
theorem dX5_comes_5 : decode cX5_comes 5 = .ok (.lstore_n 2, 1) := by decide +kernel
theorem dX5_comes_6 : decode cX5_comes 6 = .ok (.iconst 0, 1) := by decide +kernel
theorem dX5_comes_7 : decode cX5_comes 7 = .ok (.istore 4, 2) := by decide +kernel
theorem dX5_comes_9 : decode cX5_comes 9 = .ok (.iload 4, 2) := by decide +kernel
theorem dX5_comes_11 : decode cX5_comes 11 = .ok (.bipush 24, 2) := by decide +kernel
theorem dX5_comes_13 : decode cX5_comes 13 = .ok (.if_icmp .ge 55, 3) := by decide +kernel
theorem dX5_comes_16 : decode cX5_comes 16 = .ok (.aload_n 0, 1) := by decide +kernel
theorem dX5_comes_17 : decode cX5_comes 17 = .ok (.getfield 35, 3) := by decide +kernel
theorem dX5_comes_20 : decode cX5_comes 20 = .ok (.iload_n 1, 1) := by decide +kernel
theorem dX5_comes_21 : decode cX5_comes 21 = .ok (.iaload, 1) := by decide +kernel
theorem dX5_comes_22 : decode cX5_comes 22 = .ok (.iconst (-1), 1) := by decide +kernel
theorem dX5_comes_23 : decode cX5_comes 23 = .ok (.if_icmp .eq 45, 3) := by decide +kernel
theorem dX5_comes_26 : decode cX5_comes 26 = .ok (.aload_n 0, 1) := by decide +kernel
theorem dX5_comes_27 : decode cX5_comes 27 = .ok (.iload 4, 2) := by decide +kernel
theorem dX5_comes_29 : decode cX5_comes 29 = .ok (.invokevirtual 282, 3) := by decide +kernel
theorem dX5_comes_32 : decode cX5_comes 32 = .ok (.pop, 1) := by decide +kernel
theorem dX5_comes_33 : decode cX5_comes 33 = .ok (.lload_n 2, 1) := by decide +kernel
theorem dX5_comes_34 : decode cX5_comes 34 = .ok (.aload_n 0, 1) := by decide +kernel
theorem dX5_comes_35 : decode cX5_comes 35 = .ok (.getfield 35, 3) := by decide +kernel
theorem dX5_comes_38 : decode cX5_comes 38 = .ok (.iload_n 1, 1) := by decide +kernel
theorem dX5_comes_39 : decode cX5_comes 39 = .ok (.iaload, 1) := by decide +kernel
theorem dX5_comes_40 : decode cX5_comes 40 = .ok (.iconst (-1), 1) := by decide +kernel
theorem dX5_comes_41 : decode cX5_comes 41 = .ok (.if_icmp .ne 7, 3) := by decide +kernel
theorem dX5_comes_44 : decode cX5_comes 44 = .ok (.lconst 0, 1) := by decide +kernel
theorem dX5_comes_45 : decode cX5_comes 45 = .ok (.goto 11, 3) := by decide +kernel
theorem dX5_comes_48 : decode cX5_comes 48 = .ok (.lconst 1, 1) := by decide +kernel
theorem dX5_comes_49 : decode cX5_comes 49 = .ok (.aload_n 0, 1) := by decide +kernel
theorem dX5_comes_50 : decode cX5_comes 50 = .ok (.getfield 35, 3) := by decide +kernel
theorem dX5_comes_53 : decode cX5_comes 53 = .ok (.iload_n 1, 1) := by decide +kernel
theorem dX5_comes_54 : decode cX5_comes 54 = .ok (.iaload, 1) := by decide +kernel
theorem dX5_comes_55 : decode cX5_comes 55 = .ok (.lshl, 1) := by decide +kernel
theorem dX5_comes_56 : decode cX5_comes 56 = .ok (.lor, 1) := by decide +kernel
theorem dX5_comes_57 : decode cX5_comes 57 = .ok (.lstore_n 2, 1) := by decide +kernel
theorem dX5_comes_58 : decode cX5_comes 58 = .ok (.aload_n 0, 1) := by decide +kernel
theorem dX5_comes_59 : decode cX5_comes 59 = .ok (.invokevirtual 319, 3) := by decide +kernel
theorem dX5_comes_62 : decode cX5_comes 62 = .ok (.iinc 4 1, 3) := by decide +kernel
theorem dX5_comes_65 : decode cX5_comes 65 = .ok (.goto (-56), 3) := by decide +kernel
theorem dX5_comes_68 : decode cX5_comes 68 = .ok (.lload_n 2, 1) := by decide +kernel
theorem dX5_comes_69 : decode cX5_comes 69 = .ok (.lreturn, 1) := by decide +kernel
abbrev cX5_where : ByteArray := prog_7_method_63_code
abbrev mX5_where : MethodName := { cls := "KinInTheHeapModel", name := "where", desc := "(I)J" }
theorem mwX5_where : MWV mX5_where (.code mX5_where cX5_where 5 (some .long)) "KinInTheHeapModel" 1 := ⟨w1322, w1320, w1321, w103, w103, by decide +kernel⟩
theorem dX5_where_0 : decode cX5_where 0 = .ok (.iload_n 1, 1) := by decide +kernel
theorem dX5_where_1 : decode cX5_where 1 = .ok (.i2l, 1) := by decide +kernel
theorem dX5_where_2 : decode cX5_where 2 = .ok (.lconst 0, 1) := by decide +kernel
theorem dX5_where_3 : decode cX5_where 3 = .ok (.lconst 1, 1) := by decide +kernel
theorem dX5_where_4 : decode cX5_where 4 = .ok (.invokestatic 79, 3) := by decide +kernel
theorem dX5_where_7 : decode cX5_where 7 = .ok (.ifCond .ne 32, 3) := by decide +kernel
theorem dX5_where_10 : decode cX5_where 10 = .ok (.iload_n 1, 1) := by decide +kernel
theorem dX5_where_11 : decode cX5_where 11 = .ok (.i2l, 1) := by decide +kernel
theorem dX5_where_12 : decode cX5_where 12 = .ok (.ldc2_w 122, 3) := by decide +kernel
theorem dX5_where_15 : decode cX5_where 15 = .ok (.ldc2_w 299, 3) := by decide +kernel
theorem dX5_where_18 : decode cX5_where 18 = .ok (.invokestatic 79, 3) := by decide +kernel
theorem dX5_where_21 : decode cX5_where 21 = .ok (.ifCond .eq 14, 3) := by decide +kernel
theorem dX5_where_24 : decode cX5_where 24 = .ok (.aload_n 0, 1) := by decide +kernel
theorem dX5_where_25 : decode cX5_where 25 = .ok (.iload_n 1, 1) := by decide +kernel
theorem dX5_where_26 : decode cX5_where 26 = .ok (.bipush 10, 2) := by decide +kernel
theorem dX5_where_28 : decode cX5_where 28 = .ok (.isub, 1) := by decide +kernel
theorem dX5_where_29 : decode cX5_where 29 = .ok (.invokevirtual 89, 3) := by decide +kernel
theorem dX5_where_32 : decode cX5_where 32 = .ok (.ifCond .ne 7, 3) := by decide +kernel
theorem dX5_where_35 : decode cX5_where 35 = .ok (.ldc2_w 325, 3) := by decide +kernel
theorem dX5_where_38 : decode cX5_where 38 = .ok (.lreturn, 1) := by decide +kernel
theorem dX5_where_39 : decode cX5_where 39 = .ok (.iload_n 1, 1) := by decide +kernel
theorem dX5_where_40 : decode cX5_where 40 = .ok (.iconst 1, 1) := by decide +kernel
theorem dX5_where_41 : decode cX5_where 41 = .ok (.if_icmp .le 12, 3) := by decide +kernel
theorem dX5_where_44 : decode cX5_where 44 = .ok (.aload_n 0, 1) := by decide +kernel
theorem dX5_where_45 : decode cX5_where 45 = .ok (.iload_n 1, 1) := by decide +kernel
theorem dX5_where_46 : decode cX5_where 46 = .ok (.bipush 10, 2) := by decide +kernel
theorem dX5_where_48 : decode cX5_where 48 = .ok (.isub, 1) := by decide +kernel
theorem dX5_where_49 : decode cX5_where 49 = .ok (.invokevirtual 327, 3) := by decide +kernel
theorem dX5_where_52 : decode cX5_where 52 = .ok (.lreturn, 1) := by decide +kernel
theorem dX5_where_53 : decode cX5_where 53 = .ok (.lconst 0, 1) := by decide +kernel
theorem dX5_where_54 : decode cX5_where 54 = .ok (.lstore_n 2, 1) := by decide +kernel
theorem dX5_where_55 : decode cX5_where 55 = .ok (.iconst 0, 1) := by decide +kernel
theorem dX5_where_56 : decode cX5_where 56 = .ok (.istore 4, 2) := by decide +kernel
theorem dX5_where_58 : decode cX5_where 58 = .ok (.iload 4, 2) := by decide +kernel
theorem dX5_where_60 : decode cX5_where 60 = .ok (.bipush 36, 2) := by decide +kernel
theorem dX5_where_62 : decode cX5_where 62 = .ok (.if_icmp .ge 47, 3) := by decide +kernel
theorem dX5_where_65 : decode cX5_where 65 = .ok (.lload_n 2, 1) := by decide +kernel
theorem dX5_where_66 : decode cX5_where 66 = .ok (.iload_n 1, 1) := by decide +kernel
theorem dX5_where_67 : decode cX5_where 67 = .ok (.ifCond .ne 15, 3) := by decide +kernel
theorem dX5_where_70 : decode cX5_where 70 = .ok (.aload_n 0, 1) := by decide +kernel
theorem dX5_where_71 : decode cX5_where 71 = .ok (.iload 4, 2) := by decide +kernel
theorem dX5_where_73 : decode cX5_where 73 = .ok (.invokevirtual 124, 3) := by decide +kernel
theorem dX5_where_76 : decode cX5_where 76 = .ok (.ifCond .eq 24, 3) := by decide +kernel
theorem dX5_where_79 : decode cX5_where 79 = .ok (.goto 14, 3) := by decide +kernel
theorem dX5_where_82 : decode cX5_where 82 = .ok (.aload_n 0, 1) := by decide +kernel
theorem dX5_where_83 : decode cX5_where 83 = .ok (.getfield 26, 3) := by decide +kernel
theorem dX5_where_86 : decode cX5_where 86 = .ok (.iload 4, 2) := by decide +kernel
theorem dX5_where_88 : decode cX5_where 88 = .ok (.iaload, 1) := by decide +kernel
theorem dX5_where_89 : decode cX5_where 89 = .ok (.iconst 1, 1) := by decide +kernel
theorem dX5_where_90 : decode cX5_where 90 = .ok (.if_icmp .ne 10, 3) := by decide +kernel
theorem dX5_where_93 : decode cX5_where 93 = .ok (.lconst 1, 1) := by decide +kernel
theorem dX5_where_94 : decode cX5_where 94 = .ok (.iload 4, 2) := by decide +kernel
theorem dX5_where_96 : decode cX5_where 96 = .ok (.lshl, 1) := by decide +kernel
theorem dX5_where_97 : decode cX5_where 97 = .ok (.goto 4, 3) := by decide +kernel
theorem dX5_where_100 : decode cX5_where 100 = .ok (.lconst 0, 1) := by decide +kernel
theorem dX5_where_101 : decode cX5_where 101 = .ok (.lor, 1) := by decide +kernel
theorem dX5_where_102 : decode cX5_where 102 = .ok (.lstore_n 2, 1) := by decide +kernel
theorem dX5_where_103 : decode cX5_where 103 = .ok (.iinc 4 1, 3) := by decide +kernel
theorem dX5_where_106 : decode cX5_where 106 = .ok (.goto (-48), 3) := by decide +kernel
theorem dX5_where_109 : decode cX5_where 109 = .ok (.lload_n 2, 1) := by decide +kernel
theorem dX5_where_110 : decode cX5_where 110 = .ok (.lreturn, 1) := by decide +kernel
abbrev cX5_areTogether : ByteArray := prog_7_method_64_code
abbrev mX5_areTogether : MethodName := { cls := "KinInTheHeapModel", name := "areTogether", desc := "(I)Z" }
theorem mwX5_areTogether : MWV mX5_areTogether (.code mX5_areTogether cX5_areTogether 4 (some .boolean)) "KinInTheHeapModel" 1 := ⟨w1339, w1338, w89, w103, w103, by decide +kernel⟩
theorem dX5_areTogether_0 : decode cX5_areTogether 0 = .ok (.iconst (-1), 1) := by decide +kernel
theorem dX5_areTogether_1 : decode cX5_areTogether 1 = .ok (.istore_n 2, 1) := by decide +kernel
theorem dX5_areTogether_2 : decode cX5_areTogether 2 = .ok (.iconst 0, 1) := by decide +kernel
theorem dX5_areTogether_3 : decode cX5_areTogether 3 = .ok (.istore_n 3, 1) := by decide +kernel
theorem dX5_areTogether_4 : decode cX5_areTogether 4 = .ok (.iload_n 3, 1) := by decide +kernel
theorem dX5_areTogether_5 : decode cX5_areTogether 5 = .ok (.aload_n 0, 1) := by decide +kernel
theorem dX5_areTogether_6 : decode cX5_areTogether 6 = .ok (.getfield 76, 3) := by decide +kernel
theorem dX5_areTogether_9 : decode cX5_areTogether 9 = .ok (.if_icmp .ge 52, 3) := by decide +kernel
theorem dX5_areTogether_12 : decode cX5_areTogether 12 = .ok (.iload_n 1, 1) := by decide +kernel
theorem dX5_areTogether_13 : decode cX5_areTogether 13 = .ok (.iload_n 3, 1) := by decide +kernel
theorem dX5_areTogether_14 : decode cX5_areTogether 14 = .ok (.ishr, 1) := by decide +kernel
theorem dX5_areTogether_15 : decode cX5_areTogether 15 = .ok (.iconst 1, 1) := by decide +kernel
theorem dX5_areTogether_16 : decode cX5_areTogether 16 = .ok (.iand, 1) := by decide +kernel
theorem dX5_areTogether_17 : decode cX5_areTogether 17 = .ok (.iconst 1, 1) := by decide +kernel
theorem dX5_areTogether_18 : decode cX5_areTogether 18 = .ok (.if_icmp .ne 37, 3) := by decide +kernel
theorem dX5_areTogether_21 : decode cX5_areTogether 21 = .ok (.aload_n 0, 1) := by decide +kernel
theorem dX5_areTogether_22 : decode cX5_areTogether 22 = .ok (.getfield 35, 3) := by decide +kernel
theorem dX5_areTogether_25 : decode cX5_areTogether 25 = .ok (.iload_n 3, 1) := by decide +kernel
theorem dX5_areTogether_26 : decode cX5_areTogether 26 = .ok (.iaload, 1) := by decide +kernel
theorem dX5_areTogether_27 : decode cX5_areTogether 27 = .ok (.iconst (-1), 1) := by decide +kernel
theorem dX5_areTogether_28 : decode cX5_areTogether 28 = .ok (.if_icmp .eq 18, 3) := by decide +kernel
theorem dX5_areTogether_31 : decode cX5_areTogether 31 = .ok (.iload_n 2, 1) := by decide +kernel
theorem dX5_areTogether_32 : decode cX5_areTogether 32 = .ok (.iconst (-1), 1) := by decide +kernel
theorem dX5_areTogether_33 : decode cX5_areTogether 33 = .ok (.if_icmp .eq 15, 3) := by decide +kernel
theorem dX5_areTogether_36 : decode cX5_areTogether 36 = .ok (.aload_n 0, 1) := by decide +kernel
theorem dX5_areTogether_37 : decode cX5_areTogether 37 = .ok (.getfield 35, 3) := by decide +kernel
theorem dX5_areTogether_40 : decode cX5_areTogether 40 = .ok (.iload_n 3, 1) := by decide +kernel
theorem dX5_areTogether_41 : decode cX5_areTogether 41 = .ok (.iaload, 1) := by decide +kernel
theorem dX5_areTogether_42 : decode cX5_areTogether 42 = .ok (.iload_n 2, 1) := by decide +kernel
theorem dX5_areTogether_43 : decode cX5_areTogether 43 = .ok (.if_icmp .eq 5, 3) := by decide +kernel
theorem dX5_areTogether_46 : decode cX5_areTogether 46 = .ok (.iconst 0, 1) := by decide +kernel
theorem dX5_areTogether_47 : decode cX5_areTogether 47 = .ok (.ireturn, 1) := by decide +kernel
theorem dX5_areTogether_48 : decode cX5_areTogether 48 = .ok (.aload_n 0, 1) := by decide +kernel
theorem dX5_areTogether_49 : decode cX5_areTogether 49 = .ok (.getfield 35, 3) := by decide +kernel
theorem dX5_areTogether_52 : decode cX5_areTogether 52 = .ok (.iload_n 3, 1) := by decide +kernel
theorem dX5_areTogether_53 : decode cX5_areTogether 53 = .ok (.iaload, 1) := by decide +kernel
theorem dX5_areTogether_54 : decode cX5_areTogether 54 = .ok (.istore_n 2, 1) := by decide +kernel
theorem dX5_areTogether_55 : decode cX5_areTogether 55 = .ok (.iinc 3 1, 3) := by decide +kernel
theorem dX5_areTogether_58 : decode cX5_areTogether 58 = .ok (.goto (-54), 3) := by decide +kernel
theorem dX5_areTogether_61 : decode cX5_areTogether 61 = .ok (.iconst 1, 1) := by decide +kernel
theorem dX5_areTogether_62 : decode cX5_areTogether 62 = .ok (.ireturn, 1) := by decide +kernel
abbrev cX5_gathered : ByteArray := prog_7_method_65_code
abbrev mX5_gathered : MethodName := { cls := "KinInTheHeapModel", name := "gathered", desc := "(I)I" }
theorem mwX5_gathered : MWV mX5_gathered (.code mX5_gathered cX5_gathered 4 (some .int)) "KinInTheHeapModel" 1 := ⟨w1335, w1334, w88, w103, w103, by decide +kernel⟩
theorem dX5_gathered_0 : decode cX5_gathered 0 = .ok (.aload_n 0, 1) := by decide +kernel
theorem dX5_gathered_1 : decode cX5_gathered 1 = .ok (.iload_n 1, 1) := by decide +kernel
theorem dX5_gathered_2 : decode cX5_gathered 2 = .ok (.invokevirtual 331, 3) := by decide +kernel
theorem dX5_gathered_5 : decode cX5_gathered 5 = .ok (.ifCond .eq 5, 3) := by decide +kernel
theorem dX5_gathered_8 : decode cX5_gathered 8 = .ok (.iconst 0, 1) := by decide +kernel
theorem dX5_gathered_9 : decode cX5_gathered 9 = .ok (.ireturn, 1) := by decide +kernel
theorem dX5_gathered_10 : decode cX5_gathered 10 = .ok (.aload_n 0, 1) := by decide +kernel
theorem dX5_gathered_11 : decode cX5_gathered 11 = .ok (.invokevirtual 304, 3) := by decide +kernel
theorem dX5_gathered_14 : decode cX5_gathered 14 = .ok (.iconst (-1), 1) := by decide +kernel
theorem dX5_gathered_15 : decode cX5_gathered 15 = .ok (.istore_n 2, 1) := by decide +kernel
theorem dX5_gathered_16 : decode cX5_gathered 16 = .ok (.iconst 0, 1) := by decide +kernel
theorem dX5_gathered_17 : decode cX5_gathered 17 = .ok (.istore_n 3, 1) := by decide +kernel
theorem dX5_gathered_18 : decode cX5_gathered 18 = .ok (.iload_n 3, 1) := by decide +kernel
theorem dX5_gathered_19 : decode cX5_gathered 19 = .ok (.bipush 24, 2) := by decide +kernel
theorem dX5_gathered_21 : decode cX5_gathered 21 = .ok (.if_icmp .ge 40, 3) := by decide +kernel
theorem dX5_gathered_24 : decode cX5_gathered 24 = .ok (.iload_n 2, 1) := by decide +kernel
theorem dX5_gathered_25 : decode cX5_gathered 25 = .ok (.iconst (-1), 1) := by decide +kernel
theorem dX5_gathered_26 : decode cX5_gathered 26 = .ok (.if_icmp .ne 35, 3) := by decide +kernel
theorem dX5_gathered_29 : decode cX5_gathered 29 = .ok (.aload_n 0, 1) := by decide +kernel
theorem dX5_gathered_30 : decode cX5_gathered 30 = .ok (.iload_n 3, 1) := by decide +kernel
theorem dX5_gathered_31 : decode cX5_gathered 31 = .ok (.invokevirtual 282, 3) := by decide +kernel
theorem dX5_gathered_34 : decode cX5_gathered 34 = .ok (.pop, 1) := by decide +kernel
theorem dX5_gathered_35 : decode cX5_gathered 35 = .ok (.aload_n 0, 1) := by decide +kernel
theorem dX5_gathered_36 : decode cX5_gathered 36 = .ok (.iload_n 1, 1) := by decide +kernel
theorem dX5_gathered_37 : decode cX5_gathered 37 = .ok (.invokevirtual 331, 3) := by decide +kernel
theorem dX5_gathered_40 : decode cX5_gathered 40 = .ok (.ifCond .eq 9, 3) := by decide +kernel
theorem dX5_gathered_43 : decode cX5_gathered 43 = .ok (.iload_n 3, 1) := by decide +kernel
theorem dX5_gathered_44 : decode cX5_gathered 44 = .ok (.iconst 1, 1) := by decide +kernel
theorem dX5_gathered_45 : decode cX5_gathered 45 = .ok (.iadd, 1) := by decide +kernel
theorem dX5_gathered_46 : decode cX5_gathered 46 = .ok (.goto 4, 3) := by decide +kernel
theorem dX5_gathered_49 : decode cX5_gathered 49 = .ok (.iconst (-1), 1) := by decide +kernel
theorem dX5_gathered_50 : decode cX5_gathered 50 = .ok (.istore_n 2, 1) := by decide +kernel
theorem dX5_gathered_51 : decode cX5_gathered 51 = .ok (.aload_n 0, 1) := by decide +kernel
theorem dX5_gathered_52 : decode cX5_gathered 52 = .ok (.invokevirtual 319, 3) := by decide +kernel
theorem dX5_gathered_55 : decode cX5_gathered 55 = .ok (.iinc 3 1, 3) := by decide +kernel
theorem dX5_gathered_58 : decode cX5_gathered 58 = .ok (.goto (-40), 3) := by decide +kernel
theorem dX5_gathered_61 : decode cX5_gathered 61 = .ok (.iconst 0, 1) := by decide +kernel
theorem dX5_gathered_62 : decode cX5_gathered 62 = .ok (.istore_n 3, 1) := by decide +kernel
theorem dX5_gathered_63 : decode cX5_gathered 63 = .ok (.iload_n 3, 1) := by decide +kernel
theorem dX5_gathered_64 : decode cX5_gathered 64 = .ok (.sipush 576, 3) := by decide +kernel
theorem dX5_gathered_67 : decode cX5_gathered 67 = .ok (.if_icmp .ge 65, 3) := by decide +kernel
theorem dX5_gathered_70 : decode cX5_gathered 70 = .ok (.iload_n 2, 1) := by decide +kernel
theorem dX5_gathered_71 : decode cX5_gathered 71 = .ok (.iconst (-1), 1) := by decide +kernel
theorem dX5_gathered_72 : decode cX5_gathered 72 = .ok (.if_icmp .ne 60, 3) := by decide +kernel
theorem dX5_gathered_75 : decode cX5_gathered 75 = .ok (.aload_n 0, 1) := by decide +kernel
theorem dX5_gathered_76 : decode cX5_gathered 76 = .ok (.iload_n 3, 1) := by decide +kernel
theorem dX5_gathered_77 : decode cX5_gathered 77 = .ok (.bipush 24, 2) := by decide +kernel
theorem dX5_gathered_79 : decode cX5_gathered 79 = .ok (.idiv, 1) := by decide +kernel
theorem dX5_gathered_80 : decode cX5_gathered 80 = .ok (.invokevirtual 282, 3) := by decide +kernel
theorem dX5_gathered_83 : decode cX5_gathered 83 = .ok (.pop, 1) := by decide +kernel
theorem dX5_gathered_84 : decode cX5_gathered 84 = .ok (.aload_n 0, 1) := by decide +kernel
theorem dX5_gathered_85 : decode cX5_gathered 85 = .ok (.iload_n 3, 1) := by decide +kernel
theorem dX5_gathered_86 : decode cX5_gathered 86 = .ok (.bipush 24, 2) := by decide +kernel
theorem dX5_gathered_88 : decode cX5_gathered 88 = .ok (.irem, 1) := by decide +kernel
theorem dX5_gathered_89 : decode cX5_gathered 89 = .ok (.invokevirtual 282, 3) := by decide +kernel
theorem dX5_gathered_92 : decode cX5_gathered 92 = .ok (.pop, 1) := by decide +kernel
theorem dX5_gathered_93 : decode cX5_gathered 93 = .ok (.aload_n 0, 1) := by decide +kernel
theorem dX5_gathered_94 : decode cX5_gathered 94 = .ok (.iload_n 1, 1) := by decide +kernel
theorem dX5_gathered_95 : decode cX5_gathered 95 = .ok (.invokevirtual 331, 3) := by decide +kernel
theorem dX5_gathered_98 : decode cX5_gathered 98 = .ok (.ifCond .eq 22, 3) := by decide +kernel
theorem dX5_gathered_101 : decode cX5_gathered 101 = .ok (.bipush 100, 2) := by decide +kernel
theorem dX5_gathered_103 : decode cX5_gathered 103 = .ok (.iload_n 3, 1) := by decide +kernel
theorem dX5_gathered_104 : decode cX5_gathered 104 = .ok (.bipush 24, 2) := by decide +kernel
theorem dX5_gathered_106 : decode cX5_gathered 106 = .ok (.idiv, 1) := by decide +kernel
theorem dX5_gathered_107 : decode cX5_gathered 107 = .ok (.iconst 1, 1) := by decide +kernel
theorem dX5_gathered_108 : decode cX5_gathered 108 = .ok (.iadd, 1) := by decide +kernel
theorem dX5_gathered_109 : decode cX5_gathered 109 = .ok (.imul, 1) := by decide +kernel
theorem dX5_gathered_110 : decode cX5_gathered 110 = .ok (.iload_n 3, 1) := by decide +kernel
theorem dX5_gathered_111 : decode cX5_gathered 111 = .ok (.bipush 24, 2) := by decide +kernel
theorem dX5_gathered_113 : decode cX5_gathered 113 = .ok (.irem, 1) := by decide +kernel
theorem dX5_gathered_114 : decode cX5_gathered 114 = .ok (.iadd, 1) := by decide +kernel
theorem dX5_gathered_115 : decode cX5_gathered 115 = .ok (.iconst 1, 1) := by decide +kernel
theorem dX5_gathered_116 : decode cX5_gathered 116 = .ok (.iadd, 1) := by decide +kernel
theorem dX5_gathered_117 : decode cX5_gathered 117 = .ok (.goto 4, 3) := by decide +kernel
theorem dX5_gathered_120 : decode cX5_gathered 120 = .ok (.iconst (-1), 1) := by decide +kernel
theorem dX5_gathered_121 : decode cX5_gathered 121 = .ok (.istore_n 2, 1) := by decide +kernel
theorem dX5_gathered_122 : decode cX5_gathered 122 = .ok (.aload_n 0, 1) := by decide +kernel
theorem dX5_gathered_123 : decode cX5_gathered 123 = .ok (.invokevirtual 319, 3) := by decide +kernel
theorem dX5_gathered_126 : decode cX5_gathered 126 = .ok (.iinc 3 1, 3) := by decide +kernel
theorem dX5_gathered_129 : decode cX5_gathered 129 = .ok (.goto (-66), 3) := by decide +kernel
theorem dX5_gathered_132 : decode cX5_gathered 132 = .ok (.iload_n 2, 1) := by decide +kernel
theorem dX5_gathered_133 : decode cX5_gathered 133 = .ok (.ireturn, 1) := by decide +kernel
abbrev cX5_gather : ByteArray := prog_7_method_66_code
abbrev mX5_gather : MethodName := { cls := "KinInTheHeapModel", name := "gather", desc := "(II)I" }
theorem mwX5_gather : MWV mX5_gather (.code mX5_gather cX5_gather 4 (some .int)) "KinInTheHeapModel" 2 := ⟨w1331, w1329, w1330, w103, w103, by decide +kernel⟩
theorem dX5_gather_0 : decode cX5_gather 0 = .ok (.iload_n 1, 1) := by decide +kernel
theorem dX5_gather_1 : decode cX5_gather 1 = .ok (.i2l, 1) := by decide +kernel
theorem dX5_gather_2 : decode cX5_gather 2 = .ok (.lconst 1, 1) := by decide +kernel
theorem dX5_gather_3 : decode cX5_gather 3 = .ok (.iconst 1, 1) := by decide +kernel
theorem dX5_gather_4 : decode cX5_gather 4 = .ok (.aload_n 0, 1) := by decide +kernel
theorem dX5_gather_5 : decode cX5_gather 5 = .ok (.getfield 76, 3) := by decide +kernel
theorem dX5_gather_8 : decode cX5_gather 8 = .ok (.ishl, 1) := by decide +kernel
theorem dX5_gather_9 : decode cX5_gather 9 = .ok (.iconst 1, 1) := by decide +kernel
theorem dX5_gather_10 : decode cX5_gather 10 = .ok (.isub, 1) := by decide +kernel
theorem dX5_gather_11 : decode cX5_gather 11 = .ok (.i2l, 1) := by decide +kernel
theorem dX5_gather_12 : decode cX5_gather 12 = .ok (.invokestatic 79, 3) := by decide +kernel
theorem dX5_gather_15 : decode cX5_gather 15 = .ok (.ifCond .eq 13, 3) := by decide +kernel
theorem dX5_gather_18 : decode cX5_gather 18 = .ok (.iload_n 2, 1) := by decide +kernel
theorem dX5_gather_19 : decode cX5_gather 19 = .ok (.i2l, 1) := by decide +kernel
theorem dX5_gather_20 : decode cX5_gather 20 = .ok (.lconst 0, 1) := by decide +kernel
theorem dX5_gather_21 : decode cX5_gather 21 = .ok (.lconst 1, 1) := by decide +kernel
theorem dX5_gather_22 : decode cX5_gather 22 = .ok (.invokestatic 79, 3) := by decide +kernel
theorem dX5_gather_25 : decode cX5_gather 25 = .ok (.ifCond .ne 6, 3) := by decide +kernel
theorem dX5_gather_28 : decode cX5_gather 28 = .ok (.bipush (-2), 2) := by decide +kernel
theorem dX5_gather_30 : decode cX5_gather 30 = .ok (.ireturn, 1) := by decide +kernel
theorem dX5_gather_31 : decode cX5_gather 31 = .ok (.aload_n 0, 1) := by decide +kernel
theorem dX5_gather_32 : decode cX5_gather 32 = .ok (.iload_n 1, 1) := by decide +kernel
theorem dX5_gather_33 : decode cX5_gather 33 = .ok (.invokevirtual 334, 3) := by decide +kernel
theorem dX5_gather_36 : decode cX5_gather 36 = .ok (.istore_n 3, 1) := by decide +kernel
theorem dX5_gather_37 : decode cX5_gather 37 = .ok (.iload_n 3, 1) := by decide +kernel
theorem dX5_gather_38 : decode cX5_gather 38 = .ok (.iconst (-1), 1) := by decide +kernel
theorem dX5_gather_39 : decode cX5_gather 39 = .ok (.if_icmp .eq 8, 3) := by decide +kernel
theorem dX5_gather_42 : decode cX5_gather 42 = .ok (.iload_n 2, 1) := by decide +kernel
theorem dX5_gather_43 : decode cX5_gather 43 = .ok (.iconst 1, 1) := by decide +kernel
theorem dX5_gather_44 : decode cX5_gather 44 = .ok (.if_icmp .ne 7, 3) := by decide +kernel
theorem dX5_gather_47 : decode cX5_gather 47 = .ok (.iload_n 3, 1) := by decide +kernel
theorem dX5_gather_48 : decode cX5_gather 48 = .ok (.goto 22, 3) := by decide +kernel
theorem dX5_gather_51 : decode cX5_gather 51 = .ok (.iload_n 3, 1) := by decide +kernel
theorem dX5_gather_52 : decode cX5_gather 52 = .ok (.ifCond .ne 7, 3) := by decide +kernel
theorem dX5_gather_55 : decode cX5_gather 55 = .ok (.iconst 0, 1) := by decide +kernel
theorem dX5_gather_56 : decode cX5_gather 56 = .ok (.goto 14, 3) := by decide +kernel
theorem dX5_gather_59 : decode cX5_gather 59 = .ok (.iload_n 3, 1) := by decide +kernel
theorem dX5_gather_60 : decode cX5_gather 60 = .ok (.bipush 100, 2) := by decide +kernel
theorem dX5_gather_62 : decode cX5_gather 62 = .ok (.if_icmp .ge 7, 3) := by decide +kernel
theorem dX5_gather_65 : decode cX5_gather 65 = .ok (.iconst 1, 1) := by decide +kernel
theorem dX5_gather_66 : decode cX5_gather 66 = .ok (.goto 4, 3) := by decide +kernel
theorem dX5_gather_69 : decode cX5_gather 69 = .ok (.iconst 2, 1) := by decide +kernel
theorem dX5_gather_70 : decode cX5_gather 70 = .ok (.ireturn, 1) := by decide +kernel
abbrev cX5_lostFirst : ByteArray := prog_7_method_67_code
abbrev mX5_lostFirst : MethodName := { cls := "KinInTheHeapModel", name := "lostFirst", desc := "(I)I" }
theorem mwX5_lostFirst : MWV mX5_lostFirst (.code mX5_lostFirst cX5_lostFirst 7 (some .int)) "KinInTheHeapModel" 1 := ⟨w1351, w1350, w91, w103, w103, by decide +kernel⟩
theorem dX5_lostFirst_0 : decode cX5_lostFirst 0 = .ok (.aload_n 0, 1) := by decide +kernel
theorem dX5_lostFirst_1 : decode cX5_lostFirst 1 = .ok (.invokevirtual 304, 3) := by decide +kernel
theorem dX5_lostFirst_4 : decode cX5_lostFirst 4 = .ok (.iconst (-1), 1) := by decide +kernel
theorem dX5_lostFirst_5 : decode cX5_lostFirst 5 = .ok (.istore_n 2, 1) := by decide +kernel
theorem dX5_lostFirst_6 : decode cX5_lostFirst 6 = .ok (.iconst (-1), 1) := by decide +kernel
theorem dX5_lostFirst_7 : decode cX5_lostFirst 7 = .ok (.istore_n 3, 1) := by decide +kernel
theorem dX5_lostFirst_8 : decode cX5_lostFirst 8 = .ok (.iconst 0, 1) := by decide +kernel
theorem dX5_lostFirst_9 : decode cX5_lostFirst 9 = .ok (.istore 4, 2) := by decide +kernel
theorem dX5_lostFirst_11 : decode cX5_lostFirst 11 = .ok (.iload 4, 2) := by decide +kernel
theorem dX5_lostFirst_13 : decode cX5_lostFirst 13 = .ok (.bipush 24, 2) := by decide +kernel
theorem dX5_lostFirst_15 : decode cX5_lostFirst 15 = .ok (.if_icmp .ge 98, 3) := by decide +kernel
theorem dX5_lostFirst_18 : decode cX5_lostFirst 18 = .ok (.aload_n 0, 1) := by decide +kernel
theorem dX5_lostFirst_19 : decode cX5_lostFirst 19 = .ok (.iload 4, 2) := by decide +kernel
theorem dX5_lostFirst_21 : decode cX5_lostFirst 21 = .ok (.invokevirtual 282, 3) := by decide +kernel
theorem dX5_lostFirst_24 : decode cX5_lostFirst 24 = .ok (.pop, 1) := by decide +kernel
theorem dX5_lostFirst_25 : decode cX5_lostFirst 25 = .ok (.iconst 0, 1) := by decide +kernel
theorem dX5_lostFirst_26 : decode cX5_lostFirst 26 = .ok (.istore 5, 2) := by decide +kernel
theorem dX5_lostFirst_28 : decode cX5_lostFirst 28 = .ok (.iconst 0, 1) := by decide +kernel
theorem dX5_lostFirst_29 : decode cX5_lostFirst 29 = .ok (.istore 6, 2) := by decide +kernel
theorem dX5_lostFirst_31 : decode cX5_lostFirst 31 = .ok (.iload 6, 2) := by decide +kernel
theorem dX5_lostFirst_33 : decode cX5_lostFirst 33 = .ok (.aload_n 0, 1) := by decide +kernel
theorem dX5_lostFirst_34 : decode cX5_lostFirst 34 = .ok (.getfield 76, 3) := by decide +kernel
theorem dX5_lostFirst_37 : decode cX5_lostFirst 37 = .ok (.if_icmp .ge 38, 3) := by decide +kernel
theorem dX5_lostFirst_40 : decode cX5_lostFirst 40 = .ok (.iload 5, 2) := by decide +kernel
theorem dX5_lostFirst_42 : decode cX5_lostFirst 42 = .ok (.ifCond .ne 20, 3) := by decide +kernel
theorem dX5_lostFirst_45 : decode cX5_lostFirst 45 = .ok (.aload_n 0, 1) := by decide +kernel
theorem dX5_lostFirst_46 : decode cX5_lostFirst 46 = .ok (.getfield 35, 3) := by decide +kernel
theorem dX5_lostFirst_49 : decode cX5_lostFirst 49 = .ok (.iload 6, 2) := by decide +kernel
theorem dX5_lostFirst_51 : decode cX5_lostFirst 51 = .ok (.iaload, 1) := by decide +kernel
theorem dX5_lostFirst_52 : decode cX5_lostFirst 52 = .ok (.aload_n 0, 1) := by decide +kernel
theorem dX5_lostFirst_53 : decode cX5_lostFirst 53 = .ok (.getfield 41, 3) := by decide +kernel
theorem dX5_lostFirst_56 : decode cX5_lostFirst 56 = .ok (.iload 6, 2) := by decide +kernel
theorem dX5_lostFirst_58 : decode cX5_lostFirst 58 = .ok (.iaload, 1) := by decide +kernel
theorem dX5_lostFirst_59 : decode cX5_lostFirst 59 = .ok (.if_icmp .eq 7, 3) := by decide +kernel
theorem dX5_lostFirst_62 : decode cX5_lostFirst 62 = .ok (.iconst 1, 1) := by decide +kernel
theorem dX5_lostFirst_63 : decode cX5_lostFirst 63 = .ok (.goto 4, 3) := by decide +kernel
theorem dX5_lostFirst_66 : decode cX5_lostFirst 66 = .ok (.iconst 0, 1) := by decide +kernel
theorem dX5_lostFirst_67 : decode cX5_lostFirst 67 = .ok (.istore 5, 2) := by decide +kernel
theorem dX5_lostFirst_69 : decode cX5_lostFirst 69 = .ok (.iinc 6 1, 3) := by decide +kernel
theorem dX5_lostFirst_72 : decode cX5_lostFirst 72 = .ok (.goto (-41), 3) := by decide +kernel
theorem dX5_lostFirst_75 : decode cX5_lostFirst 75 = .ok (.aload_n 0, 1) := by decide +kernel
theorem dX5_lostFirst_76 : decode cX5_lostFirst 76 = .ok (.invokevirtual 337, 3) := by decide +kernel
theorem dX5_lostFirst_79 : decode cX5_lostFirst 79 = .ok (.istore 6, 2) := by decide +kernel
theorem dX5_lostFirst_81 : decode cX5_lostFirst 81 = .ok (.aload_n 0, 1) := by decide +kernel
theorem dX5_lostFirst_82 : decode cX5_lostFirst 82 = .ok (.invokevirtual 319, 3) := by decide +kernel
theorem dX5_lostFirst_85 : decode cX5_lostFirst 85 = .ok (.iload 5, 2) := by decide +kernel
theorem dX5_lostFirst_87 : decode cX5_lostFirst 87 = .ok (.ifCond .eq 20, 3) := by decide +kernel
theorem dX5_lostFirst_90 : decode cX5_lostFirst 90 = .ok (.iload_n 2, 1) := by decide +kernel
theorem dX5_lostFirst_91 : decode cX5_lostFirst 91 = .ok (.iconst (-1), 1) := by decide +kernel
theorem dX5_lostFirst_92 : decode cX5_lostFirst 92 = .ok (.if_icmp .eq 9, 3) := by decide +kernel
theorem dX5_lostFirst_95 : decode cX5_lostFirst 95 = .ok (.iload 6, 2) := by decide +kernel
theorem dX5_lostFirst_97 : decode cX5_lostFirst 97 = .ok (.iload_n 3, 1) := by decide +kernel
theorem dX5_lostFirst_98 : decode cX5_lostFirst 98 = .ok (.if_icmp .ge 9, 3) := by decide +kernel
theorem dX5_lostFirst_101 : decode cX5_lostFirst 101 = .ok (.iload 4, 2) := by decide +kernel
theorem dX5_lostFirst_103 : decode cX5_lostFirst 103 = .ok (.istore_n 2, 1) := by decide +kernel
theorem dX5_lostFirst_104 : decode cX5_lostFirst 104 = .ok (.iload 6, 2) := by decide +kernel
theorem dX5_lostFirst_106 : decode cX5_lostFirst 106 = .ok (.istore_n 3, 1) := by decide +kernel
theorem dX5_lostFirst_107 : decode cX5_lostFirst 107 = .ok (.iinc 4 1, 3) := by decide +kernel
theorem dX5_lostFirst_110 : decode cX5_lostFirst 110 = .ok (.goto (-99), 3) := by decide +kernel
theorem dX5_lostFirst_113 : decode cX5_lostFirst 113 = .ok (.iload_n 1, 1) := by decide +kernel
theorem dX5_lostFirst_114 : decode cX5_lostFirst 114 = .ok (.iconst 4, 1) := by decide +kernel
theorem dX5_lostFirst_115 : decode cX5_lostFirst 115 = .ok (.if_icmp .ne 7, 3) := by decide +kernel
theorem dX5_lostFirst_118 : decode cX5_lostFirst 118 = .ok (.iload_n 2, 1) := by decide +kernel
theorem dX5_lostFirst_119 : decode cX5_lostFirst 119 = .ok (.goto 4, 3) := by decide +kernel
theorem dX5_lostFirst_122 : decode cX5_lostFirst 122 = .ok (.iload_n 3, 1) := by decide +kernel
theorem dX5_lostFirst_123 : decode cX5_lostFirst 123 = .ok (.ireturn, 1) := by decide +kernel
abbrev cX5_bestBy : ByteArray := prog_7_method_68_code
abbrev mX5_bestBy : MethodName := { cls := "KinInTheHeapModel", name := "bestBy", desc := "(I)I" }
theorem mwX5_bestBy : MWV mX5_bestBy (.code mX5_bestBy cX5_bestBy 6 (some .int)) "KinInTheHeapModel" 1 := ⟨w1347, w1346, w90, w103, w103, by decide +kernel⟩
theorem dX5_bestBy_0 : decode cX5_bestBy 0 = .ok (.aload_n 0, 1) := by decide +kernel
theorem dX5_bestBy_1 : decode cX5_bestBy 1 = .ok (.invokevirtual 304, 3) := by decide +kernel
theorem dX5_bestBy_4 : decode cX5_bestBy 4 = .ok (.iconst (-1), 1) := by decide +kernel
theorem dX5_bestBy_5 : decode cX5_bestBy 5 = .ok (.istore_n 2, 1) := by decide +kernel
theorem dX5_bestBy_6 : decode cX5_bestBy 6 = .ok (.iconst 0, 1) := by decide +kernel
theorem dX5_bestBy_7 : decode cX5_bestBy 7 = .ok (.istore_n 3, 1) := by decide +kernel
theorem dX5_bestBy_8 : decode cX5_bestBy 8 = .ok (.iconst 0, 1) := by decide +kernel
theorem dX5_bestBy_9 : decode cX5_bestBy 9 = .ok (.istore 4, 2) := by decide +kernel
theorem dX5_bestBy_11 : decode cX5_bestBy 11 = .ok (.iload 4, 2) := by decide +kernel
theorem dX5_bestBy_13 : decode cX5_bestBy 13 = .ok (.bipush 24, 2) := by decide +kernel
theorem dX5_bestBy_15 : decode cX5_bestBy 15 = .ok (.if_icmp .ge 56, 3) := by decide +kernel
theorem dX5_bestBy_18 : decode cX5_bestBy 18 = .ok (.aload_n 0, 1) := by decide +kernel
theorem dX5_bestBy_19 : decode cX5_bestBy 19 = .ok (.iload 4, 2) := by decide +kernel
theorem dX5_bestBy_21 : decode cX5_bestBy 21 = .ok (.invokevirtual 282, 3) := by decide +kernel
theorem dX5_bestBy_24 : decode cX5_bestBy 24 = .ok (.pop, 1) := by decide +kernel
theorem dX5_bestBy_25 : decode cX5_bestBy 25 = .ok (.iload_n 1, 1) := by decide +kernel
theorem dX5_bestBy_26 : decode cX5_bestBy 26 = .ok (.iconst 2, 1) := by decide +kernel
theorem dX5_bestBy_27 : decode cX5_bestBy 27 = .ok (.if_icmp .ge 10, 3) := by decide +kernel
theorem dX5_bestBy_30 : decode cX5_bestBy 30 = .ok (.aload_n 0, 1) := by decide +kernel
theorem dX5_bestBy_31 : decode cX5_bestBy 31 = .ok (.invokevirtual 310, 3) := by decide +kernel
theorem dX5_bestBy_34 : decode cX5_bestBy 34 = .ok (.goto 8, 3) := by decide +kernel
theorem dX5_bestBy_37 : decode cX5_bestBy 37 = .ok (.aload_n 0, 1) := by decide +kernel
theorem dX5_bestBy_38 : decode cX5_bestBy 38 = .ok (.invokevirtual 316, 3) := by decide +kernel
theorem dX5_bestBy_41 : decode cX5_bestBy 41 = .ok (.ineg, 1) := by decide +kernel
theorem dX5_bestBy_42 : decode cX5_bestBy 42 = .ok (.istore 5, 2) := by decide +kernel
theorem dX5_bestBy_44 : decode cX5_bestBy 44 = .ok (.aload_n 0, 1) := by decide +kernel
theorem dX5_bestBy_45 : decode cX5_bestBy 45 = .ok (.invokevirtual 319, 3) := by decide +kernel
theorem dX5_bestBy_48 : decode cX5_bestBy 48 = .ok (.iload_n 2, 1) := by decide +kernel
theorem dX5_bestBy_49 : decode cX5_bestBy 49 = .ok (.iconst (-1), 1) := by decide +kernel
theorem dX5_bestBy_50 : decode cX5_bestBy 50 = .ok (.if_icmp .eq 9, 3) := by decide +kernel
theorem dX5_bestBy_53 : decode cX5_bestBy 53 = .ok (.iload 5, 2) := by decide +kernel
theorem dX5_bestBy_55 : decode cX5_bestBy 55 = .ok (.iload_n 3, 1) := by decide +kernel
theorem dX5_bestBy_56 : decode cX5_bestBy 56 = .ok (.if_icmp .le 9, 3) := by decide +kernel
theorem dX5_bestBy_59 : decode cX5_bestBy 59 = .ok (.iload 4, 2) := by decide +kernel
theorem dX5_bestBy_61 : decode cX5_bestBy 61 = .ok (.istore_n 2, 1) := by decide +kernel
theorem dX5_bestBy_62 : decode cX5_bestBy 62 = .ok (.iload 5, 2) := by decide +kernel
theorem dX5_bestBy_64 : decode cX5_bestBy 64 = .ok (.istore_n 3, 1) := by decide +kernel
theorem dX5_bestBy_65 : decode cX5_bestBy 65 = .ok (.iinc 4 1, 3) := by decide +kernel
theorem dX5_bestBy_68 : decode cX5_bestBy 68 = .ok (.goto (-57), 3) := by decide +kernel
theorem dX5_bestBy_71 : decode cX5_bestBy 71 = .ok (.iload_n 1, 1) := by decide +kernel
theorem dX5_bestBy_72 : decode cX5_bestBy 72 = .ok (.iconst 2, 1) := by decide +kernel
theorem dX5_bestBy_73 : decode cX5_bestBy 73 = .ok (.irem, 1) := by decide +kernel
theorem dX5_bestBy_74 : decode cX5_bestBy 74 = .ok (.ifCond .ne 7, 3) := by decide +kernel
theorem dX5_bestBy_77 : decode cX5_bestBy 77 = .ok (.iload_n 2, 1) := by decide +kernel
theorem dX5_bestBy_78 : decode cX5_bestBy 78 = .ok (.goto 13, 3) := by decide +kernel
theorem dX5_bestBy_81 : decode cX5_bestBy 81 = .ok (.iload_n 3, 1) := by decide +kernel
theorem dX5_bestBy_82 : decode cX5_bestBy 82 = .ok (.ifCond .ge 8, 3) := by decide +kernel
theorem dX5_bestBy_85 : decode cX5_bestBy 85 = .ok (.iload_n 3, 1) := by decide +kernel
theorem dX5_bestBy_86 : decode cX5_bestBy 86 = .ok (.ineg, 1) := by decide +kernel
theorem dX5_bestBy_87 : decode cX5_bestBy 87 = .ok (.goto 4, 3) := by decide +kernel
theorem dX5_bestBy_90 : decode cX5_bestBy 90 = .ok (.iload_n 3, 1) := by decide +kernel
theorem dX5_bestBy_91 : decode cX5_bestBy 91 = .ok (.ireturn, 1) := by decide +kernel
abbrev cX5_best : ByteArray := prog_7_method_69_code
abbrev mX5_best : MethodName := { cls := "KinInTheHeapModel", name := "best", desc := "(I)I" }
theorem mwX5_best : MWV mX5_best (.code mX5_best cX5_best 2 (some .int)) "KinInTheHeapModel" 1 := ⟨w1343, w1341, w1342, w103, w103, by decide +kernel⟩
theorem dX5_best_0 : decode cX5_best 0 = .ok (.iload_n 1, 1) := by decide +kernel
theorem dX5_best_1 : decode cX5_best 1 = .ok (.i2l, 1) := by decide +kernel
theorem dX5_best_2 : decode cX5_best 2 = .ok (.lconst 0, 1) := by decide +kernel
theorem dX5_best_3 : decode cX5_best 3 = .ok (.ldc2_w 118, 3) := by decide +kernel
theorem dX5_best_6 : decode cX5_best 6 = .ok (.invokestatic 79, 3) := by decide +kernel
theorem dX5_best_9 : decode cX5_best 9 = .ok (.ifCond .ne 8, 3) := by decide +kernel
theorem dX5_best_12 : decode cX5_best 12 = .ok (.bipush (-2), 2) := by decide +kernel
theorem dX5_best_14 : decode cX5_best 14 = .ok (.goto 21, 3) := by decide +kernel
theorem dX5_best_17 : decode cX5_best 17 = .ok (.iload_n 1, 1) := by decide +kernel
theorem dX5_best_18 : decode cX5_best 18 = .ok (.iconst 4, 1) := by decide +kernel
theorem dX5_best_19 : decode cX5_best 19 = .ok (.if_icmp .ge 11, 3) := by decide +kernel
theorem dX5_best_22 : decode cX5_best 22 = .ok (.aload_n 0, 1) := by decide +kernel
theorem dX5_best_23 : decode cX5_best 23 = .ok (.iload_n 1, 1) := by decide +kernel
theorem dX5_best_24 : decode cX5_best 24 = .ok (.invokevirtual 340, 3) := by decide +kernel
theorem dX5_best_27 : decode cX5_best 27 = .ok (.goto 8, 3) := by decide +kernel
theorem dX5_best_30 : decode cX5_best 30 = .ok (.aload_n 0, 1) := by decide +kernel
theorem dX5_best_31 : decode cX5_best 31 = .ok (.iload_n 1, 1) := by decide +kernel
theorem dX5_best_32 : decode cX5_best 32 = .ok (.invokevirtual 343, 3) := by decide +kernel
theorem dX5_best_35 : decode cX5_best 35 = .ok (.ireturn, 1) := by decide +kernel
abbrev cX5_outBy : ByteArray := prog_7_method_70_code
abbrev mX5_outBy : MethodName := { cls := "KinInTheHeapModel", name := "outBy", desc := "(I)I" }
theorem mwX5_outBy : MWV mX5_outBy (.code mX5_outBy cX5_outBy 3 (some .int)) "KinInTheHeapModel" 1 := ⟨w1363, w1362, w93, w103, w103, by decide +kernel⟩
theorem dX5_outBy_0 : decode cX5_outBy 0 = .ok (.aload_n 0, 1) := by decide +kernel
theorem dX5_outBy_1 : decode cX5_outBy 1 = .ok (.invokevirtual 304, 3) := by decide +kernel
theorem dX5_outBy_4 : decode cX5_outBy 4 = .ok (.aload_n 0, 1) := by decide +kernel
theorem dX5_outBy_5 : decode cX5_outBy 5 = .ok (.iload_n 1, 1) := by decide +kernel
theorem dX5_outBy_6 : decode cX5_outBy 6 = .ok (.invokevirtual 282, 3) := by decide +kernel
theorem dX5_outBy_9 : decode cX5_outBy 9 = .ok (.pop, 1) := by decide +kernel
theorem dX5_outBy_10 : decode cX5_outBy 10 = .ok (.aload_n 0, 1) := by decide +kernel
theorem dX5_outBy_11 : decode cX5_outBy 11 = .ok (.invokevirtual 337, 3) := by decide +kernel
theorem dX5_outBy_14 : decode cX5_outBy 14 = .ok (.istore_n 2, 1) := by decide +kernel
theorem dX5_outBy_15 : decode cX5_outBy 15 = .ok (.aload_n 0, 1) := by decide +kernel
theorem dX5_outBy_16 : decode cX5_outBy 16 = .ok (.invokevirtual 319, 3) := by decide +kernel
theorem dX5_outBy_19 : decode cX5_outBy 19 = .ok (.iload_n 2, 1) := by decide +kernel
theorem dX5_outBy_20 : decode cX5_outBy 20 = .ok (.ireturn, 1) := by decide +kernel
abbrev cX5_save : ByteArray := prog_7_method_71_code
abbrev mX5_save : MethodName := { cls := "KinInTheHeapModel", name := "save", desc := "(II)I" }
theorem mwX5_save : MWV mX5_save (.code mX5_save cX5_save 7 (some .int)) "KinInTheHeapModel" 2 := ⟨w1359, w1357, w1358, w103, w103, by decide +kernel⟩
theorem dX5_save_0 : decode cX5_save 0 = .ok (.iload_n 1, 1) := by decide +kernel
theorem dX5_save_1 : decode cX5_save 1 = .ok (.invokestatic 279, 3) := by decide +kernel
theorem dX5_save_4 : decode cX5_save 4 = .ok (.ifCond .eq 13, 3) := by decide +kernel
theorem dX5_save_7 : decode cX5_save 7 = .ok (.iload_n 2, 1) := by decide +kernel
theorem dX5_save_8 : decode cX5_save 8 = .ok (.i2l, 1) := by decide +kernel
theorem dX5_save_9 : decode cX5_save 9 = .ok (.lconst 0, 1) := by decide +kernel
theorem dX5_save_10 : decode cX5_save 10 = .ok (.lconst 1, 1) := by decide +kernel
theorem dX5_save_11 : decode cX5_save 11 = .ok (.invokestatic 79, 3) := by decide +kernel
theorem dX5_save_14 : decode cX5_save 14 = .ok (.ifCond .ne 6, 3) := by decide +kernel
theorem dX5_save_17 : decode cX5_save 17 = .ok (.bipush (-2), 2) := by decide +kernel
theorem dX5_save_19 : decode cX5_save 19 = .ok (.ireturn, 1) := by decide +kernel
theorem dX5_save_20 : decode cX5_save 20 = .ok (.iconst (-1), 1) := by decide +kernel
theorem dX5_save_21 : decode cX5_save 21 = .ok (.istore_n 3, 1) := by decide +kernel
theorem dX5_save_22 : decode cX5_save 22 = .ok (.aload_n 0, 1) := by decide +kernel
theorem dX5_save_23 : decode cX5_save 23 = .ok (.iload_n 1, 1) := by decide +kernel
theorem dX5_save_24 : decode cX5_save 24 = .ok (.invokevirtual 346, 3) := by decide +kernel
theorem dX5_save_27 : decode cX5_save 27 = .ok (.istore 4, 2) := by decide +kernel
theorem dX5_save_29 : decode cX5_save 29 = .ok (.iconst 0, 1) := by decide +kernel
theorem dX5_save_30 : decode cX5_save 30 = .ok (.istore 5, 2) := by decide +kernel
theorem dX5_save_32 : decode cX5_save 32 = .ok (.iload 5, 2) := by decide +kernel
theorem dX5_save_34 : decode cX5_save 34 = .ok (.bipush 36, 2) := by decide +kernel
theorem dX5_save_36 : decode cX5_save 36 = .ok (.if_icmp .ge 65, 3) := by decide +kernel
theorem dX5_save_39 : decode cX5_save 39 = .ok (.aload_n 0, 1) := by decide +kernel
theorem dX5_save_40 : decode cX5_save 40 = .ok (.getfield 26, 3) := by decide +kernel
theorem dX5_save_43 : decode cX5_save 43 = .ok (.iload 5, 2) := by decide +kernel
theorem dX5_save_45 : decode cX5_save 45 = .ok (.iaload, 1) := by decide +kernel
theorem dX5_save_46 : decode cX5_save 46 = .ok (.ifCond .ne 49, 3) := by decide +kernel
theorem dX5_save_49 : decode cX5_save 49 = .ok (.aload_n 0, 1) := by decide +kernel
theorem dX5_save_50 : decode cX5_save 50 = .ok (.iload 5, 2) := by decide +kernel
theorem dX5_save_52 : decode cX5_save 52 = .ok (.invokevirtual 124, 3) := by decide +kernel
theorem dX5_save_55 : decode cX5_save 55 = .ok (.ifCond .ne 40, 3) := by decide +kernel
theorem dX5_save_58 : decode cX5_save 58 = .ok (.aload_n 0, 1) := by decide +kernel
theorem dX5_save_59 : decode cX5_save 59 = .ok (.getfield 26, 3) := by decide +kernel
theorem dX5_save_62 : decode cX5_save 62 = .ok (.iload 5, 2) := by decide +kernel
theorem dX5_save_64 : decode cX5_save 64 = .ok (.iconst 1, 1) := by decide +kernel
theorem dX5_save_65 : decode cX5_save 65 = .ok (.iastore, 1) := by decide +kernel
theorem dX5_save_66 : decode cX5_save 66 = .ok (.aload_n 0, 1) := by decide +kernel
theorem dX5_save_67 : decode cX5_save 67 = .ok (.iload_n 1, 1) := by decide +kernel
theorem dX5_save_68 : decode cX5_save 68 = .ok (.invokevirtual 346, 3) := by decide +kernel
theorem dX5_save_71 : decode cX5_save 71 = .ok (.istore 6, 2) := by decide +kernel
theorem dX5_save_73 : decode cX5_save 73 = .ok (.aload_n 0, 1) := by decide +kernel
theorem dX5_save_74 : decode cX5_save 74 = .ok (.getfield 26, 3) := by decide +kernel
theorem dX5_save_77 : decode cX5_save 77 = .ok (.iload 5, 2) := by decide +kernel
theorem dX5_save_79 : decode cX5_save 79 = .ok (.iconst 0, 1) := by decide +kernel
theorem dX5_save_80 : decode cX5_save 80 = .ok (.iastore, 1) := by decide +kernel
theorem dX5_save_81 : decode cX5_save 81 = .ok (.iload 6, 2) := by decide +kernel
theorem dX5_save_83 : decode cX5_save 83 = .ok (.iload 4, 2) := by decide +kernel
theorem dX5_save_85 : decode cX5_save 85 = .ok (.if_icmp .ge 10, 3) := by decide +kernel
theorem dX5_save_88 : decode cX5_save 88 = .ok (.iload 5, 2) := by decide +kernel
theorem dX5_save_90 : decode cX5_save 90 = .ok (.istore_n 3, 1) := by decide +kernel
theorem dX5_save_91 : decode cX5_save 91 = .ok (.iload 6, 2) := by decide +kernel
theorem dX5_save_93 : decode cX5_save 93 = .ok (.istore 4, 2) := by decide +kernel
theorem dX5_save_95 : decode cX5_save 95 = .ok (.iinc 5 1, 3) := by decide +kernel
theorem dX5_save_98 : decode cX5_save 98 = .ok (.goto (-66), 3) := by decide +kernel
theorem dX5_save_101 : decode cX5_save 101 = .ok (.iload_n 2, 1) := by decide +kernel
theorem dX5_save_102 : decode cX5_save 102 = .ok (.ifCond .ne 7, 3) := by decide +kernel
theorem dX5_save_105 : decode cX5_save 105 = .ok (.iload_n 3, 1) := by decide +kernel
theorem dX5_save_106 : decode cX5_save 106 = .ok (.goto 5, 3) := by decide +kernel
theorem dX5_save_109 : decode cX5_save 109 = .ok (.iload 4, 2) := by decide +kernel
theorem dX5_save_111 : decode cX5_save 111 = .ok (.ireturn, 1) := by decide +kernel
abbrev cX5_lasts : ByteArray := prog_7_method_72_code
abbrev mX5_lasts : MethodName := { cls := "KinInTheHeapModel", name := "lasts", desc := "(II)I" }
theorem mwX5_lasts : MWV mX5_lasts (.code mX5_lasts cX5_lasts 4 (some .int)) "KinInTheHeapModel" 2 := ⟨w1367, w1365, w1366, w103, w103, by decide +kernel⟩
theorem dX5_lasts_0 : decode cX5_lasts 0 = .ok (.aload_n 0, 1) := by decide +kernel
theorem dX5_lasts_1 : decode cX5_lasts 1 = .ok (.iload_n 1, 1) := by decide +kernel
theorem dX5_lasts_2 : decode cX5_lasts 2 = .ok (.invokevirtual 89, 3) := by decide +kernel
theorem dX5_lasts_5 : decode cX5_lasts 5 = .ok (.ifCond .eq 15, 3) := by decide +kernel
theorem dX5_lasts_8 : decode cX5_lasts 8 = .ok (.iload_n 2, 1) := by decide +kernel
theorem dX5_lasts_9 : decode cX5_lasts 9 = .ok (.i2l, 1) := by decide +kernel
theorem dX5_lasts_10 : decode cX5_lasts 10 = .ok (.lconst 0, 1) := by decide +kernel
theorem dX5_lasts_11 : decode cX5_lasts 11 = .ok (.ldc2_w 349, 3) := by decide +kernel
theorem dX5_lasts_14 : decode cX5_lasts 14 = .ok (.invokestatic 79, 3) := by decide +kernel
theorem dX5_lasts_17 : decode cX5_lasts 17 = .ok (.ifCond .ne 6, 3) := by decide +kernel
theorem dX5_lasts_20 : decode cX5_lasts 20 = .ok (.bipush (-2), 2) := by decide +kernel
theorem dX5_lasts_22 : decode cX5_lasts 22 = .ok (.ireturn, 1) := by decide +kernel
theorem dX5_lasts_23 : decode cX5_lasts 23 = .ok (.aload_n 0, 1) := by decide +kernel
theorem dX5_lasts_24 : decode cX5_lasts 24 = .ok (.invokevirtual 304, 3) := by decide +kernel
theorem dX5_lasts_27 : decode cX5_lasts 27 = .ok (.iconst 0, 1) := by decide +kernel
theorem dX5_lasts_28 : decode cX5_lasts 28 = .ok (.istore_n 3, 1) := by decide +kernel
theorem dX5_lasts_29 : decode cX5_lasts 29 = .ok (.iload_n 3, 1) := by decide +kernel
theorem dX5_lasts_30 : decode cX5_lasts 30 = .ok (.iload_n 2, 1) := by decide +kernel
theorem dX5_lasts_31 : decode cX5_lasts 31 = .ok (.if_icmp .gt 24, 3) := by decide +kernel
theorem dX5_lasts_34 : decode cX5_lasts 34 = .ok (.aload_n 0, 1) := by decide +kernel
theorem dX5_lasts_35 : decode cX5_lasts 35 = .ok (.getfield 35, 3) := by decide +kernel
theorem dX5_lasts_38 : decode cX5_lasts 38 = .ok (.iload_n 1, 1) := by decide +kernel
theorem dX5_lasts_39 : decode cX5_lasts 39 = .ok (.iaload, 1) := by decide +kernel
theorem dX5_lasts_40 : decode cX5_lasts 40 = .ok (.iconst (-1), 1) := by decide +kernel
theorem dX5_lasts_41 : decode cX5_lasts 41 = .ok (.if_icmp .eq 14, 3) := by decide +kernel
theorem dX5_lasts_44 : decode cX5_lasts 44 = .ok (.aload_n 0, 1) := by decide +kernel
theorem dX5_lasts_45 : decode cX5_lasts 45 = .ok (.invokevirtual 285, 3) := by decide +kernel
theorem dX5_lasts_48 : decode cX5_lasts 48 = .ok (.pop, 1) := by decide +kernel
theorem dX5_lasts_49 : decode cX5_lasts 49 = .ok (.iinc 3 1, 3) := by decide +kernel
theorem dX5_lasts_52 : decode cX5_lasts 52 = .ok (.goto (-23), 3) := by decide +kernel
theorem dX5_lasts_55 : decode cX5_lasts 55 = .ok (.aload_n 0, 1) := by decide +kernel
theorem dX5_lasts_56 : decode cX5_lasts 56 = .ok (.invokevirtual 319, 3) := by decide +kernel
theorem dX5_lasts_59 : decode cX5_lasts 59 = .ok (.iload_n 3, 1) := by decide +kernel
theorem dX5_lasts_60 : decode cX5_lasts 60 = .ok (.iload_n 2, 1) := by decide +kernel
theorem dX5_lasts_61 : decode cX5_lasts 61 = .ok (.if_icmp .le 7, 3) := by decide +kernel
theorem dX5_lasts_64 : decode cX5_lasts 64 = .ok (.iconst (-1), 1) := by decide +kernel
theorem dX5_lasts_65 : decode cX5_lasts 65 = .ok (.goto 4, 3) := by decide +kernel
theorem dX5_lasts_68 : decode cX5_lasts 68 = .ok (.iload_n 3, 1) := by decide +kernel
theorem dX5_lasts_69 : decode cX5_lasts 69 = .ok (.ireturn, 1) := by decide +kernel
abbrev cX5_lowest : ByteArray := prog_7_method_73_code
abbrev mX5_lowest : MethodName := { cls := "KinInTheHeapModel", name := "lowest", desc := "(JJI)J" }
theorem mwX5_lowest : MWS mX5_lowest (.code mX5_lowest cX5_lowest 11 (some .long)) 3 := ⟨w1375, w1374, w103, by decide +kernel⟩
theorem dX5_lowest_0 : decode cX5_lowest 0 = .ok (.lload_n 0, 1) := by decide +kernel
theorem dX5_lowest_1 : decode cX5_lowest 1 = .ok (.lstore 5, 2) := by decide +kernel
theorem dX5_lowest_3 : decode cX5_lowest 3 = .ok (.lload_n 2, 1) := by decide +kernel
theorem dX5_lowest_4 : decode cX5_lowest 4 = .ok (.lstore 7, 2) := by decide +kernel
theorem dX5_lowest_6 : decode cX5_lowest 6 = .ok (.lload 7, 2) := by decide +kernel
theorem dX5_lowest_8 : decode cX5_lowest 8 = .ok (.lconst 0, 1) := by decide +kernel
theorem dX5_lowest_9 : decode cX5_lowest 9 = .ok (.lcmp, 1) := by decide +kernel
theorem dX5_lowest_10 : decode cX5_lowest 10 = .ok (.ifCond .eq 21, 3) := by decide +kernel
theorem dX5_lowest_13 : decode cX5_lowest 13 = .ok (.lload 5, 2) := by decide +kernel
theorem dX5_lowest_15 : decode cX5_lowest 15 = .ok (.lload 7, 2) := by decide +kernel
theorem dX5_lowest_17 : decode cX5_lowest 17 = .ok (.lrem, 1) := by decide +kernel
theorem dX5_lowest_18 : decode cX5_lowest 18 = .ok (.lstore 9, 2) := by decide +kernel
theorem dX5_lowest_20 : decode cX5_lowest 20 = .ok (.lload 7, 2) := by decide +kernel
theorem dX5_lowest_22 : decode cX5_lowest 22 = .ok (.lstore 5, 2) := by decide +kernel
theorem dX5_lowest_24 : decode cX5_lowest 24 = .ok (.lload 9, 2) := by decide +kernel
theorem dX5_lowest_26 : decode cX5_lowest 26 = .ok (.lstore 7, 2) := by decide +kernel
theorem dX5_lowest_28 : decode cX5_lowest 28 = .ok (.goto (-22), 3) := by decide +kernel
theorem dX5_lowest_31 : decode cX5_lowest 31 = .ok (.iload 4, 2) := by decide +kernel
theorem dX5_lowest_33 : decode cX5_lowest 33 = .ok (.ifCond .ne 10, 3) := by decide +kernel
theorem dX5_lowest_36 : decode cX5_lowest 36 = .ok (.lload_n 0, 1) := by decide +kernel
theorem dX5_lowest_37 : decode cX5_lowest 37 = .ok (.lload 5, 2) := by decide +kernel
theorem dX5_lowest_39 : decode cX5_lowest 39 = .ok (.ldiv, 1) := by decide +kernel
theorem dX5_lowest_40 : decode cX5_lowest 40 = .ok (.goto 7, 3) := by decide +kernel
theorem dX5_lowest_43 : decode cX5_lowest 43 = .ok (.lload_n 2, 1) := by decide +kernel
theorem dX5_lowest_44 : decode cX5_lowest 44 = .ok (.lload 5, 2) := by decide +kernel
theorem dX5_lowest_46 : decode cX5_lowest 46 = .ok (.ldiv, 1) := by decide +kernel
theorem dX5_lowest_47 : decode cX5_lowest 47 = .ok (.lreturn, 1) := by decide +kernel
abbrev cX5_share : ByteArray := prog_7_method_74_code
abbrev mX5_share : MethodName := { cls := "KinInTheHeapModel", name := "share", desc := "(I)J" }
theorem mwX5_share : MWV mX5_share (.code mX5_share cX5_share 2 (some .long)) "KinInTheHeapModel" 1 := ⟨w1372, w1370, w1371, w103, w103, by decide +kernel⟩
theorem dX5_share_0 : decode cX5_share 0 = .ok (.iload_n 1, 1) := by decide +kernel
theorem dX5_share_1 : decode cX5_share 1 = .ok (.i2l, 1) := by decide +kernel
theorem dX5_share_2 : decode cX5_share 2 = .ok (.lconst 0, 1) := by decide +kernel
theorem dX5_share_3 : decode cX5_share 3 = .ok (.lconst 1, 1) := by decide +kernel
theorem dX5_share_4 : decode cX5_share 4 = .ok (.invokestatic 79, 3) := by decide +kernel
theorem dX5_share_7 : decode cX5_share 7 = .ok (.ifCond .eq 27, 3) := by decide +kernel
theorem dX5_share_10 : decode cX5_share 10 = .ok (.aload_n 0, 1) := by decide +kernel
theorem dX5_share_11 : decode cX5_share 11 = .ok (.getfield 76, 3) := by decide +kernel
theorem dX5_share_14 : decode cX5_share 14 = .ok (.ifCond .le 20, 3) := by decide +kernel
theorem dX5_share_17 : decode cX5_share 17 = .ok (.aload_n 0, 1) := by decide +kernel
theorem dX5_share_18 : decode cX5_share 18 = .ok (.invokevirtual 337, 3) := by decide +kernel
theorem dX5_share_21 : decode cX5_share 21 = .ok (.i2l, 1) := by decide +kernel
theorem dX5_share_22 : decode cX5_share 22 = .ok (.aload_n 0, 1) := by decide +kernel
theorem dX5_share_23 : decode cX5_share 23 = .ok (.getfield 76, 3) := by decide +kernel
theorem dX5_share_26 : decode cX5_share 26 = .ok (.i2l, 1) := by decide +kernel
theorem dX5_share_27 : decode cX5_share 27 = .ok (.iload_n 1, 1) := by decide +kernel
theorem dX5_share_28 : decode cX5_share 28 = .ok (.invokestatic 351, 3) := by decide +kernel
theorem dX5_share_31 : decode cX5_share 31 = .ok (.goto 6, 3) := by decide +kernel
theorem dX5_share_34 : decode cX5_share 34 = .ok (.ldc2_w 325, 3) := by decide +kernel
theorem dX5_share_37 : decode cX5_share 37 = .ok (.lreturn, 1) := by decide +kernel
abbrev cX5_firstOther : ByteArray := prog_7_method_75_code
abbrev mX5_firstOther : MethodName := { cls := "KinInTheHeapModel", name := "firstOther", desc := "(II)I" }
theorem mwX5_firstOther : MWV mX5_firstOther (.code mX5_firstOther cX5_firstOther 6 (some .int)) "KinInTheHeapModel" 2 := ⟨w1384, w1383, w94, w103, w103, by decide +kernel⟩
theorem dX5_firstOther_0 : decode cX5_firstOther 0 = .ok (.aload_n 0, 1) := by decide +kernel
theorem dX5_firstOther_1 : decode cX5_firstOther 1 = .ok (.getfield 23, 3) := by decide +kernel
theorem dX5_firstOther_4 : decode cX5_firstOther 4 = .ok (.istore_n 3, 1) := by decide +kernel
theorem dX5_firstOther_5 : decode cX5_firstOther 5 = .ok (.iconst (-1), 1) := by decide +kernel
theorem dX5_firstOther_6 : decode cX5_firstOther 6 = .ok (.istore 4, 2) := by decide +kernel
theorem dX5_firstOther_8 : decode cX5_firstOther 8 = .ok (.iconst 0, 1) := by decide +kernel
theorem dX5_firstOther_9 : decode cX5_firstOther 9 = .ok (.istore 5, 2) := by decide +kernel
theorem dX5_firstOther_11 : decode cX5_firstOther 11 = .ok (.iload 5, 2) := by decide +kernel
theorem dX5_firstOther_13 : decode cX5_firstOther 13 = .ok (.aload_n 0, 1) := by decide +kernel
theorem dX5_firstOther_14 : decode cX5_firstOther 14 = .ok (.getfield 63, 3) := by decide +kernel
theorem dX5_firstOther_17 : decode cX5_firstOther 17 = .ok (.iload_n 1, 1) := by decide +kernel
theorem dX5_firstOther_18 : decode cX5_firstOther 18 = .ok (.iaload, 1) := by decide +kernel
theorem dX5_firstOther_19 : decode cX5_firstOther 19 = .ok (.if_icmp .ge 49, 3) := by decide +kernel
theorem dX5_firstOther_22 : decode cX5_firstOther 22 = .ok (.iload 4, 2) := by decide +kernel
theorem dX5_firstOther_24 : decode cX5_firstOther 24 = .ok (.iconst (-1), 1) := by decide +kernel
theorem dX5_firstOther_25 : decode cX5_firstOther 25 = .ok (.if_icmp .ne 43, 3) := by decide +kernel
theorem dX5_firstOther_28 : decode cX5_firstOther 28 = .ok (.aload_n 0, 1) := by decide +kernel
theorem dX5_firstOther_29 : decode cX5_firstOther 29 = .ok (.iload 5, 2) := by decide +kernel
theorem dX5_firstOther_31 : decode cX5_firstOther 31 = .ok (.putfield 23, 3) := by decide +kernel
theorem dX5_firstOther_34 : decode cX5_firstOther 34 = .ok (.aload_n 0, 1) := by decide +kernel
theorem dX5_firstOther_35 : decode cX5_firstOther 35 = .ok (.iload_n 2, 1) := by decide +kernel
theorem dX5_firstOther_36 : decode cX5_firstOther 36 = .ok (.invokevirtual 127, 3) := by decide +kernel
theorem dX5_firstOther_39 : decode cX5_firstOther 39 = .ok (.aload_n 0, 1) := by decide +kernel
theorem dX5_firstOther_40 : decode cX5_firstOther 40 = .ok (.getfield 66, 3) := by decide +kernel
theorem dX5_firstOther_43 : decode cX5_firstOther 43 = .ok (.bipush 40, 2) := by decide +kernel
theorem dX5_firstOther_45 : decode cX5_firstOther 45 = .ok (.iload_n 1, 1) := by decide +kernel
theorem dX5_firstOther_46 : decode cX5_firstOther 46 = .ok (.imul, 1) := by decide +kernel
theorem dX5_firstOther_47 : decode cX5_firstOther 47 = .ok (.iload 5, 2) := by decide +kernel
theorem dX5_firstOther_49 : decode cX5_firstOther 49 = .ok (.iadd, 1) := by decide +kernel
theorem dX5_firstOther_50 : decode cX5_firstOther 50 = .ok (.iaload, 1) := by decide +kernel
theorem dX5_firstOther_51 : decode cX5_firstOther 51 = .ok (.if_icmp .ne 7, 3) := by decide +kernel
theorem dX5_firstOther_54 : decode cX5_firstOther 54 = .ok (.iconst (-1), 1) := by decide +kernel
theorem dX5_firstOther_55 : decode cX5_firstOther 55 = .ok (.goto 5, 3) := by decide +kernel
theorem dX5_firstOther_58 : decode cX5_firstOther 58 = .ok (.iload 5, 2) := by decide +kernel
theorem dX5_firstOther_60 : decode cX5_firstOther 60 = .ok (.istore 4, 2) := by decide +kernel
theorem dX5_firstOther_62 : decode cX5_firstOther 62 = .ok (.iinc 5 1, 3) := by decide +kernel
theorem dX5_firstOther_65 : decode cX5_firstOther 65 = .ok (.goto (-54), 3) := by decide +kernel
theorem dX5_firstOther_68 : decode cX5_firstOther 68 = .ok (.aload_n 0, 1) := by decide +kernel
theorem dX5_firstOther_69 : decode cX5_firstOther 69 = .ok (.iload_n 3, 1) := by decide +kernel
theorem dX5_firstOther_70 : decode cX5_firstOther 70 = .ok (.putfield 23, 3) := by decide +kernel
theorem dX5_firstOther_73 : decode cX5_firstOther 73 = .ok (.iload 4, 2) := by decide +kernel
theorem dX5_firstOther_75 : decode cX5_firstOther 75 = .ok (.ireturn, 1) := by decide +kernel
abbrev cX5_likeSet : ByteArray := prog_7_method_76_code
abbrev mX5_likeSet : MethodName := { cls := "KinInTheHeapModel", name := "likeSet", desc := "(I)I" }
theorem mwX5_likeSet : MWV mX5_likeSet (.code mX5_likeSet cX5_likeSet 4 (some .int)) "KinInTheHeapModel" 1 := ⟨w1388, w1387, w95, w103, w103, by decide +kernel⟩
theorem dX5_likeSet_0 : decode cX5_likeSet 0 = .ok (.iconst 0, 1) := by decide +kernel
theorem dX5_likeSet_1 : decode cX5_likeSet 1 = .ok (.istore_n 2, 1) := by decide +kernel
theorem dX5_likeSet_2 : decode cX5_likeSet 2 = .ok (.iconst 0, 1) := by decide +kernel
theorem dX5_likeSet_3 : decode cX5_likeSet 3 = .ok (.istore_n 3, 1) := by decide +kernel
theorem dX5_likeSet_4 : decode cX5_likeSet 4 = .ok (.iload_n 3, 1) := by decide +kernel
theorem dX5_likeSet_5 : decode cX5_likeSet 5 = .ok (.aload_n 0, 1) := by decide +kernel
theorem dX5_likeSet_6 : decode cX5_likeSet 6 = .ok (.getfield 76, 3) := by decide +kernel
theorem dX5_likeSet_9 : decode cX5_likeSet 9 = .ok (.if_icmp .ge 39, 3) := by decide +kernel
theorem dX5_likeSet_12 : decode cX5_likeSet 12 = .ok (.iload_n 2, 1) := by decide +kernel
theorem dX5_likeSet_13 : decode cX5_likeSet 13 = .ok (.aload_n 0, 1) := by decide +kernel
theorem dX5_likeSet_14 : decode cX5_likeSet 14 = .ok (.getfield 35, 3) := by decide +kernel
theorem dX5_likeSet_17 : decode cX5_likeSet 17 = .ok (.iload_n 3, 1) := by decide +kernel
theorem dX5_likeSet_18 : decode cX5_likeSet 18 = .ok (.iaload, 1) := by decide +kernel
theorem dX5_likeSet_19 : decode cX5_likeSet 19 = .ok (.iconst (-1), 1) := by decide +kernel
theorem dX5_likeSet_20 : decode cX5_likeSet 20 = .ok (.if_icmp .eq 17, 3) := by decide +kernel
theorem dX5_likeSet_23 : decode cX5_likeSet 23 = .ok (.aload_n 0, 1) := by decide +kernel
theorem dX5_likeSet_24 : decode cX5_likeSet 24 = .ok (.iload_n 1, 1) := by decide +kernel
theorem dX5_likeSet_25 : decode cX5_likeSet 25 = .ok (.iload_n 3, 1) := by decide +kernel
theorem dX5_likeSet_26 : decode cX5_likeSet 26 = .ok (.invokevirtual 355, 3) := by decide +kernel
theorem dX5_likeSet_29 : decode cX5_likeSet 29 = .ok (.iconst (-1), 1) := by decide +kernel
theorem dX5_likeSet_30 : decode cX5_likeSet 30 = .ok (.if_icmp .ne 7, 3) := by decide +kernel
theorem dX5_likeSet_33 : decode cX5_likeSet 33 = .ok (.iconst 1, 1) := by decide +kernel
theorem dX5_likeSet_34 : decode cX5_likeSet 34 = .ok (.goto 4, 3) := by decide +kernel
theorem dX5_likeSet_37 : decode cX5_likeSet 37 = .ok (.iconst 0, 1) := by decide +kernel
theorem dX5_likeSet_38 : decode cX5_likeSet 38 = .ok (.iload_n 3, 1) := by decide +kernel
theorem dX5_likeSet_39 : decode cX5_likeSet 39 = .ok (.ishl, 1) := by decide +kernel
theorem dX5_likeSet_40 : decode cX5_likeSet 40 = .ok (.ior, 1) := by decide +kernel
theorem dX5_likeSet_41 : decode cX5_likeSet 41 = .ok (.istore_n 2, 1) := by decide +kernel
theorem dX5_likeSet_42 : decode cX5_likeSet 42 = .ok (.iinc 3 1, 3) := by decide +kernel
theorem dX5_likeSet_45 : decode cX5_likeSet 45 = .ok (.goto (-41), 3) := by decide +kernel
theorem dX5_likeSet_48 : decode cX5_likeSet 48 = .ok (.iload_n 2, 1) := by decide +kernel
theorem dX5_likeSet_49 : decode cX5_likeSet 49 = .ok (.ireturn, 1) := by decide +kernel
abbrev cX5_tells : ByteArray := prog_7_method_77_code
abbrev mX5_tells : MethodName := { cls := "KinInTheHeapModel", name := "tells", desc := "(III)I" }
theorem mwX5_tells : MWV mX5_tells (.code mX5_tells cX5_tells 11 (some .int)) "KinInTheHeapModel" 3 := ⟨w1379, w1377, w1378, w103, w103, by decide +kernel⟩
theorem dX5_tells_0 : decode cX5_tells 0 = .ok (.iload_n 1, 1) := by decide +kernel
theorem dX5_tells_1 : decode cX5_tells 1 = .ok (.invokestatic 294, 3) := by decide +kernel
theorem dX5_tells_4 : decode cX5_tells 4 = .ok (.ifCond .eq 33, 3) := by decide +kernel
theorem dX5_tells_7 : decode cX5_tells 7 = .ok (.aload_n 0, 1) := by decide +kernel
theorem dX5_tells_8 : decode cX5_tells 8 = .ok (.iload_n 2, 1) := by decide +kernel
theorem dX5_tells_9 : decode cX5_tells 9 = .ok (.invokevirtual 89, 3) := by decide +kernel
theorem dX5_tells_12 : decode cX5_tells 12 = .ok (.ifCond .eq 25, 3) := by decide +kernel
theorem dX5_tells_15 : decode cX5_tells 15 = .ok (.aload_n 0, 1) := by decide +kernel
theorem dX5_tells_16 : decode cX5_tells 16 = .ok (.getfield 35, 3) := by decide +kernel
theorem dX5_tells_19 : decode cX5_tells 19 = .ok (.iload_n 2, 1) := by decide +kernel
theorem dX5_tells_20 : decode cX5_tells 20 = .ok (.iaload, 1) := by decide +kernel
theorem dX5_tells_21 : decode cX5_tells 21 = .ok (.iconst (-1), 1) := by decide +kernel
theorem dX5_tells_22 : decode cX5_tells 22 = .ok (.if_icmp .eq 15, 3) := by decide +kernel
theorem dX5_tells_25 : decode cX5_tells 25 = .ok (.iload_n 3, 1) := by decide +kernel
theorem dX5_tells_26 : decode cX5_tells 26 = .ok (.i2l, 1) := by decide +kernel
theorem dX5_tells_27 : decode cX5_tells 27 = .ok (.lconst 0, 1) := by decide +kernel
theorem dX5_tells_28 : decode cX5_tells 28 = .ok (.ldc2_w 358, 3) := by decide +kernel
theorem dX5_tells_31 : decode cX5_tells 31 = .ok (.invokestatic 79, 3) := by decide +kernel
theorem dX5_tells_34 : decode cX5_tells 34 = .ok (.ifCond .ne 6, 3) := by decide +kernel
theorem dX5_tells_37 : decode cX5_tells 37 = .ok (.bipush (-2), 2) := by decide +kernel
theorem dX5_tells_39 : decode cX5_tells 39 = .ok (.ireturn, 1) := by decide +kernel
theorem dX5_tells_40 : decode cX5_tells 40 = .ok (.aload_n 0, 1) := by decide +kernel
theorem dX5_tells_41 : decode cX5_tells 41 = .ok (.getfield 56, 3) := by decide +kernel
theorem dX5_tells_44 : decode cX5_tells 44 = .ok (.iload_n 1, 1) := by decide +kernel
theorem dX5_tells_45 : decode cX5_tells 45 = .ok (.baload, 1) := by decide +kernel
theorem dX5_tells_46 : decode cX5_tells 46 = .ok (.ifCond .ne 6, 3) := by decide +kernel
theorem dX5_tells_49 : decode cX5_tells 49 = .ok (.bipush (-11), 2) := by decide +kernel
theorem dX5_tells_51 : decode cX5_tells 51 = .ok (.ireturn, 1) := by decide +kernel
theorem dX5_tells_52 : decode cX5_tells 52 = .ok (.aload_n 0, 1) := by decide +kernel
theorem dX5_tells_53 : decode cX5_tells 53 = .ok (.getfield 63, 3) := by decide +kernel
theorem dX5_tells_56 : decode cX5_tells 56 = .ok (.iload_n 1, 1) := by decide +kernel
theorem dX5_tells_57 : decode cX5_tells 57 = .ok (.iaload, 1) := by decide +kernel
theorem dX5_tells_58 : decode cX5_tells 58 = .ok (.bipush 10, 2) := by decide +kernel
theorem dX5_tells_60 : decode cX5_tells 60 = .ok (.if_icmp .le 6, 3) := by decide +kernel
theorem dX5_tells_63 : decode cX5_tells 63 = .ok (.bipush (-2), 2) := by decide +kernel
theorem dX5_tells_65 : decode cX5_tells 65 = .ok (.ireturn, 1) := by decide +kernel
theorem dX5_tells_66 : decode cX5_tells 66 = .ok (.iload_n 3, 1) := by decide +kernel
theorem dX5_tells_67 : decode cX5_tells 67 = .ok (.ifCond .eq 9, 3) := by decide +kernel
theorem dX5_tells_70 : decode cX5_tells 70 = .ok (.iload_n 3, 1) := by decide +kernel
theorem dX5_tells_71 : decode cX5_tells 71 = .ok (.bipush 6, 2) := by decide +kernel
theorem dX5_tells_73 : decode cX5_tells 73 = .ok (.if_icmp .ne 22, 3) := by decide +kernel
theorem dX5_tells_76 : decode cX5_tells 76 = .ok (.iload_n 3, 1) := by decide +kernel
theorem dX5_tells_77 : decode cX5_tells 77 = .ok (.ifCond .ne 12, 3) := by decide +kernel
theorem dX5_tells_80 : decode cX5_tells 80 = .ok (.aload_n 0, 1) := by decide +kernel
theorem dX5_tells_81 : decode cX5_tells 81 = .ok (.iload_n 1, 1) := by decide +kernel
theorem dX5_tells_82 : decode cX5_tells 82 = .ok (.iload_n 2, 1) := by decide +kernel
theorem dX5_tells_83 : decode cX5_tells 83 = .ok (.invokevirtual 355, 3) := by decide +kernel
theorem dX5_tells_86 : decode cX5_tells 86 = .ok (.goto 8, 3) := by decide +kernel
theorem dX5_tells_89 : decode cX5_tells 89 = .ok (.aload_n 0, 1) := by decide +kernel
theorem dX5_tells_90 : decode cX5_tells 90 = .ok (.iload_n 1, 1) := by decide +kernel
theorem dX5_tells_91 : decode cX5_tells 91 = .ok (.invokevirtual 360, 3) := by decide +kernel
theorem dX5_tells_94 : decode cX5_tells 94 = .ok (.ireturn, 1) := by decide +kernel
theorem dX5_tells_95 : decode cX5_tells 95 = .ok (.iload_n 3, 1) := by decide +kernel
theorem dX5_tells_96 : decode cX5_tells 96 = .ok (.iconst 1, 1) := by decide +kernel
theorem dX5_tells_97 : decode cX5_tells 97 = .ok (.if_icmp .ne 7, 3) := by decide +kernel
theorem dX5_tells_100 : decode cX5_tells 100 = .ok (.iconst 5, 1) := by decide +kernel
theorem dX5_tells_101 : decode cX5_tells 101 = .ok (.goto 23, 3) := by decide +kernel
theorem dX5_tells_104 : decode cX5_tells 104 = .ok (.iload_n 3, 1) := by decide +kernel
theorem dX5_tells_105 : decode cX5_tells 105 = .ok (.iconst 2, 1) := by decide +kernel
theorem dX5_tells_106 : decode cX5_tells 106 = .ok (.if_icmp .ne 7, 3) := by decide +kernel
theorem dX5_tells_109 : decode cX5_tells 109 = .ok (.iconst 3, 1) := by decide +kernel
theorem dX5_tells_110 : decode cX5_tells 110 = .ok (.goto 14, 3) := by decide +kernel
theorem dX5_tells_113 : decode cX5_tells 113 = .ok (.iload_n 3, 1) := by decide +kernel
theorem dX5_tells_114 : decode cX5_tells 114 = .ok (.iconst 5, 1) := by decide +kernel
theorem dX5_tells_115 : decode cX5_tells 115 = .ok (.if_icmp .ne 8, 3) := by decide +kernel
theorem dX5_tells_118 : decode cX5_tells 118 = .ok (.bipush 6, 2) := by decide +kernel
theorem dX5_tells_120 : decode cX5_tells 120 = .ok (.goto 4, 3) := by decide +kernel
theorem dX5_tells_123 : decode cX5_tells 123 = .ok (.iconst 0, 1) := by decide +kernel
theorem dX5_tells_124 : decode cX5_tells 124 = .ok (.istore 4, 2) := by decide +kernel
theorem dX5_tells_126 : decode cX5_tells 126 = .ok (.iload 4, 2) := by decide +kernel
theorem dX5_tells_128 : decode cX5_tells 128 = .ok (.bipush 6, 2) := by decide +kernel
theorem dX5_tells_130 : decode cX5_tells 130 = .ok (.if_icmp .ne 10, 3) := by decide +kernel
theorem dX5_tells_133 : decode cX5_tells 133 = .ok (.aload_n 0, 1) := by decide +kernel
theorem dX5_tells_134 : decode cX5_tells 134 = .ok (.getfield 115, 3) := by decide +kernel
theorem dX5_tells_137 : decode cX5_tells 137 = .ok (.goto 10, 3) := by decide +kernel
theorem dX5_tells_140 : decode cX5_tells 140 = .ok (.aload_n 0, 1) := by decide +kernel
theorem dX5_tells_141 : decode cX5_tells 141 = .ok (.iload_n 2, 1) := by decide +kernel
theorem dX5_tells_142 : decode cX5_tells 142 = .ok (.iload 4, 2) := by decide +kernel
theorem dX5_tells_144 : decode cX5_tells 144 = .ok (.invokevirtual 104, 3) := by decide +kernel
theorem dX5_tells_147 : decode cX5_tells 147 = .ok (.istore 5, 2) := by decide +kernel
theorem dX5_tells_149 : decode cX5_tells 149 = .ok (.iload 4, 2) := by decide +kernel
theorem dX5_tells_151 : decode cX5_tells 151 = .ok (.bipush 6, 2) := by decide +kernel
theorem dX5_tells_153 : decode cX5_tells 153 = .ok (.if_icmp .ne 12, 3) := by decide +kernel
theorem dX5_tells_156 : decode cX5_tells 156 = .ok (.aload_n 0, 1) := by decide +kernel
theorem dX5_tells_157 : decode cX5_tells 157 = .ok (.getfield 73, 3) := by decide +kernel
theorem dX5_tells_160 : decode cX5_tells 160 = .ok (.iconst 1, 1) := by decide +kernel
theorem dX5_tells_161 : decode cX5_tells 161 = .ok (.isub, 1) := by decide +kernel
theorem dX5_tells_162 : decode cX5_tells 162 = .ok (.goto 26, 3) := by decide +kernel
theorem dX5_tells_165 : decode cX5_tells 165 = .ok (.iload 4, 2) := by decide +kernel
theorem dX5_tells_167 : decode cX5_tells 167 = .ok (.iconst 5, 1) := by decide +kernel
theorem dX5_tells_168 : decode cX5_tells 168 = .ok (.if_icmp .ne 7, 3) := by decide +kernel
theorem dX5_tells_171 : decode cX5_tells 171 = .ok (.iconst 5, 1) := by decide +kernel
theorem dX5_tells_172 : decode cX5_tells 172 = .ok (.goto 16, 3) := by decide +kernel
theorem dX5_tells_175 : decode cX5_tells 175 = .ok (.iload 4, 2) := by decide +kernel
theorem dX5_tells_177 : decode cX5_tells 177 = .ok (.iconst 3, 1) := by decide +kernel
theorem dX5_tells_178 : decode cX5_tells 178 = .ok (.if_icmp .ne 8, 3) := by decide +kernel
theorem dX5_tells_181 : decode cX5_tells 181 = .ok (.bipush 9, 2) := by decide +kernel
theorem dX5_tells_183 : decode cX5_tells 183 = .ok (.goto 5, 3) := by decide +kernel
theorem dX5_tells_186 : decode cX5_tells 186 = .ok (.bipush 99, 2) := by decide +kernel
theorem dX5_tells_188 : decode cX5_tells 188 = .ok (.istore 6, 2) := by decide +kernel
theorem dX5_tells_190 : decode cX5_tells 190 = .ok (.iconst 0, 1) := by decide +kernel
theorem dX5_tells_191 : decode cX5_tells 191 = .ok (.istore 7, 2) := by decide +kernel
theorem dX5_tells_193 : decode cX5_tells 193 = .ok (.iconst 0, 1) := by decide +kernel
theorem dX5_tells_194 : decode cX5_tells 194 = .ok (.istore 8, 2) := by decide +kernel
theorem dX5_tells_196 : decode cX5_tells 196 = .ok (.iconst (-1), 1) := by decide +kernel
theorem dX5_tells_197 : decode cX5_tells 197 = .ok (.istore 9, 2) := by decide +kernel
theorem dX5_tells_199 : decode cX5_tells 199 = .ok (.iload 6, 2) := by decide +kernel
theorem dX5_tells_201 : decode cX5_tells 201 = .ok (.istore 10, 2) := by decide +kernel
theorem dX5_tells_203 : decode cX5_tells 203 = .ok (.iload 10, 2) := by decide +kernel
theorem dX5_tells_205 : decode cX5_tells 205 = .ok (.ifCond .lt 55, 3) := by decide +kernel
theorem dX5_tells_208 : decode cX5_tells 208 = .ok (.aload_n 0, 1) := by decide +kernel
theorem dX5_tells_209 : decode cX5_tells 209 = .ok (.iload 4, 2) := by decide +kernel
theorem dX5_tells_211 : decode cX5_tells 211 = .ok (.iload_n 2, 1) := by decide +kernel
theorem dX5_tells_212 : decode cX5_tells 212 = .ok (.iload 10, 2) := by decide +kernel
theorem dX5_tells_214 : decode cX5_tells 214 = .ok (.invokevirtual 108, 3) := by decide +kernel
theorem dX5_tells_217 : decode cX5_tells 217 = .ok (.aload_n 0, 1) := by decide +kernel
theorem dX5_tells_218 : decode cX5_tells 218 = .ok (.iload_n 1, 1) := by decide +kernel
theorem dX5_tells_219 : decode cX5_tells 219 = .ok (.iload_n 2, 1) := by decide +kernel
theorem dX5_tells_220 : decode cX5_tells 220 = .ok (.invokevirtual 355, 3) := by decide +kernel
theorem dX5_tells_223 : decode cX5_tells 223 = .ok (.iconst (-1), 1) := by decide +kernel
theorem dX5_tells_224 : decode cX5_tells 224 = .ok (.if_icmp .ne 30, 3) := by decide +kernel
theorem dX5_tells_227 : decode cX5_tells 227 = .ok (.iload 7, 2) := by decide +kernel
theorem dX5_tells_229 : decode cX5_tells 229 = .ok (.iload 10, 2) := by decide +kernel
theorem dX5_tells_231 : decode cX5_tells 231 = .ok (.bipush 10, 2) := by decide +kernel
theorem dX5_tells_233 : decode cX5_tells 233 = .ok (.if_icmp .ge 10, 3) := by decide +kernel
theorem dX5_tells_236 : decode cX5_tells 236 = .ok (.iconst 1, 1) := by decide +kernel
theorem dX5_tells_237 : decode cX5_tells 237 = .ok (.iload 10, 2) := by decide +kernel
theorem dX5_tells_239 : decode cX5_tells 239 = .ok (.ishl, 1) := by decide +kernel
theorem dX5_tells_240 : decode cX5_tells 240 = .ok (.goto 4, 3) := by decide +kernel
theorem dX5_tells_243 : decode cX5_tells 243 = .ok (.iconst 0, 1) := by decide +kernel
theorem dX5_tells_244 : decode cX5_tells 244 = .ok (.ior, 1) := by decide +kernel
theorem dX5_tells_245 : decode cX5_tells 245 = .ok (.istore 7, 2) := by decide +kernel
theorem dX5_tells_247 : decode cX5_tells 247 = .ok (.iinc 8 1, 3) := by decide +kernel
theorem dX5_tells_250 : decode cX5_tells 250 = .ok (.iload 10, 2) := by decide +kernel
theorem dX5_tells_252 : decode cX5_tells 252 = .ok (.istore 9, 2) := by decide +kernel
theorem dX5_tells_254 : decode cX5_tells 254 = .ok (.iinc 10 (-1), 3) := by decide +kernel
theorem dX5_tells_257 : decode cX5_tells 257 = .ok (.goto (-54), 3) := by decide +kernel
theorem dX5_tells_260 : decode cX5_tells 260 = .ok (.aload_n 0, 1) := by decide +kernel
theorem dX5_tells_261 : decode cX5_tells 261 = .ok (.iload 4, 2) := by decide +kernel
theorem dX5_tells_263 : decode cX5_tells 263 = .ok (.iload_n 2, 1) := by decide +kernel
theorem dX5_tells_264 : decode cX5_tells 264 = .ok (.iload 5, 2) := by decide +kernel
theorem dX5_tells_266 : decode cX5_tells 266 = .ok (.invokevirtual 108, 3) := by decide +kernel
theorem dX5_tells_269 : decode cX5_tells 269 = .ok (.iload_n 3, 1) := by decide +kernel
theorem dX5_tells_270 : decode cX5_tells 270 = .ok (.iconst 3, 1) := by decide +kernel
theorem dX5_tells_271 : decode cX5_tells 271 = .ok (.if_icmp .ne 8, 3) := by decide +kernel
theorem dX5_tells_274 : decode cX5_tells 274 = .ok (.iload 8, 2) := by decide +kernel
theorem dX5_tells_276 : decode cX5_tells 276 = .ok (.goto 15, 3) := by decide +kernel
theorem dX5_tells_279 : decode cX5_tells 279 = .ok (.iload_n 3, 1) := by decide +kernel
theorem dX5_tells_280 : decode cX5_tells 280 = .ok (.iconst 4, 1) := by decide +kernel
theorem dX5_tells_281 : decode cX5_tells 281 = .ok (.if_icmp .ne 8, 3) := by decide +kernel
theorem dX5_tells_284 : decode cX5_tells 284 = .ok (.iload 9, 2) := by decide +kernel
theorem dX5_tells_286 : decode cX5_tells 286 = .ok (.goto 5, 3) := by decide +kernel
theorem dX5_tells_289 : decode cX5_tells 289 = .ok (.iload 7, 2) := by decide +kernel
theorem dX5_tells_291 : decode cX5_tells 291 = .ok (.ireturn, 1) := by decide +kernel
abbrev cX5_places : ByteArray := prog_7_method_78_code
abbrev mX5_places : MethodName := { cls := "KinInTheHeapModel", name := "places", desc := "(II)J" }
theorem mwX5_places : MWV mX5_places (.code mX5_places cX5_places 7 (some .long)) "KinInTheHeapModel" 2 := ⟨w1392, w1390, w1391, w103, w103, by decide +kernel⟩
theorem dX5_places_0 : decode cX5_places 0 = .ok (.iload_n 1, 1) := by decide +kernel
theorem dX5_places_1 : decode cX5_places 1 = .ok (.invokestatic 294, 3) := by decide +kernel
theorem dX5_places_4 : decode cX5_places 4 = .ok (.ifCond .eq 41, 3) := by decide +kernel
theorem dX5_places_7 : decode cX5_places 7 = .ok (.aload_n 0, 1) := by decide +kernel
theorem dX5_places_8 : decode cX5_places 8 = .ok (.iload_n 2, 1) := by decide +kernel
theorem dX5_places_9 : decode cX5_places 9 = .ok (.invokevirtual 89, 3) := by decide +kernel
theorem dX5_places_12 : decode cX5_places 12 = .ok (.ifCond .eq 33, 3) := by decide +kernel
theorem dX5_places_15 : decode cX5_places 15 = .ok (.aload_n 0, 1) := by decide +kernel
theorem dX5_places_16 : decode cX5_places 16 = .ok (.getfield 35, 3) := by decide +kernel
theorem dX5_places_19 : decode cX5_places 19 = .ok (.iload_n 2, 1) := by decide +kernel
theorem dX5_places_20 : decode cX5_places 20 = .ok (.iaload, 1) := by decide +kernel
theorem dX5_places_21 : decode cX5_places 21 = .ok (.iconst (-1), 1) := by decide +kernel
theorem dX5_places_22 : decode cX5_places 22 = .ok (.if_icmp .eq 23, 3) := by decide +kernel
theorem dX5_places_25 : decode cX5_places 25 = .ok (.aload_n 0, 1) := by decide +kernel
theorem dX5_places_26 : decode cX5_places 26 = .ok (.getfield 56, 3) := by decide +kernel
theorem dX5_places_29 : decode cX5_places 29 = .ok (.iload_n 1, 1) := by decide +kernel
theorem dX5_places_30 : decode cX5_places 30 = .ok (.baload, 1) := by decide +kernel
theorem dX5_places_31 : decode cX5_places 31 = .ok (.ifCond .eq 14, 3) := by decide +kernel
theorem dX5_places_34 : decode cX5_places 34 = .ok (.aload_n 0, 1) := by decide +kernel
theorem dX5_places_35 : decode cX5_places 35 = .ok (.getfield 63, 3) := by decide +kernel
theorem dX5_places_38 : decode cX5_places 38 = .ok (.iload_n 1, 1) := by decide +kernel
theorem dX5_places_39 : decode cX5_places 39 = .ok (.iaload, 1) := by decide +kernel
theorem dX5_places_40 : decode cX5_places 40 = .ok (.bipush 10, 2) := by decide +kernel
theorem dX5_places_42 : decode cX5_places 42 = .ok (.if_icmp .le 7, 3) := by decide +kernel
theorem dX5_places_45 : decode cX5_places 45 = .ok (.ldc2_w 325, 3) := by decide +kernel
theorem dX5_places_48 : decode cX5_places 48 = .ok (.lreturn, 1) := by decide +kernel
theorem dX5_places_49 : decode cX5_places 49 = .ok (.aload_n 0, 1) := by decide +kernel
theorem dX5_places_50 : decode cX5_places 50 = .ok (.getfield 35, 3) := by decide +kernel
theorem dX5_places_53 : decode cX5_places 53 = .ok (.iload_n 2, 1) := by decide +kernel
theorem dX5_places_54 : decode cX5_places 54 = .ok (.iaload, 1) := by decide +kernel
theorem dX5_places_55 : decode cX5_places 55 = .ok (.istore_n 3, 1) := by decide +kernel
theorem dX5_places_56 : decode cX5_places 56 = .ok (.lconst 0, 1) := by decide +kernel
theorem dX5_places_57 : decode cX5_places 57 = .ok (.lstore 4, 2) := by decide +kernel
theorem dX5_places_59 : decode cX5_places 59 = .ok (.iconst 0, 1) := by decide +kernel
theorem dX5_places_60 : decode cX5_places 60 = .ok (.istore 6, 2) := by decide +kernel
theorem dX5_places_62 : decode cX5_places 62 = .ok (.iload 6, 2) := by decide +kernel
theorem dX5_places_64 : decode cX5_places 64 = .ok (.bipush 36, 2) := by decide +kernel
theorem dX5_places_66 : decode cX5_places 66 = .ok (.if_icmp .ge 40, 3) := by decide +kernel
theorem dX5_places_69 : decode cX5_places 69 = .ok (.aload_n 0, 1) := by decide +kernel
theorem dX5_places_70 : decode cX5_places 70 = .ok (.getfield 35, 3) := by decide +kernel
theorem dX5_places_73 : decode cX5_places 73 = .ok (.iload_n 2, 1) := by decide +kernel
theorem dX5_places_74 : decode cX5_places 74 = .ok (.iload 6, 2) := by decide +kernel
theorem dX5_places_76 : decode cX5_places 76 = .ok (.iastore, 1) := by decide +kernel
theorem dX5_places_77 : decode cX5_places 77 = .ok (.lload 4, 2) := by decide +kernel
theorem dX5_places_79 : decode cX5_places 79 = .ok (.aload_n 0, 1) := by decide +kernel
theorem dX5_places_80 : decode cX5_places 80 = .ok (.iload_n 1, 1) := by decide +kernel
theorem dX5_places_81 : decode cX5_places 81 = .ok (.iload_n 2, 1) := by decide +kernel
theorem dX5_places_82 : decode cX5_places 82 = .ok (.invokevirtual 355, 3) := by decide +kernel
theorem dX5_places_85 : decode cX5_places 85 = .ok (.iconst (-1), 1) := by decide +kernel
theorem dX5_places_86 : decode cX5_places 86 = .ok (.if_icmp .ne 10, 3) := by decide +kernel
theorem dX5_places_89 : decode cX5_places 89 = .ok (.lconst 1, 1) := by decide +kernel
theorem dX5_places_90 : decode cX5_places 90 = .ok (.iload 6, 2) := by decide +kernel
theorem dX5_places_92 : decode cX5_places 92 = .ok (.lshl, 1) := by decide +kernel
theorem dX5_places_93 : decode cX5_places 93 = .ok (.goto 4, 3) := by decide +kernel
theorem dX5_places_96 : decode cX5_places 96 = .ok (.lconst 0, 1) := by decide +kernel
theorem dX5_places_97 : decode cX5_places 97 = .ok (.lor, 1) := by decide +kernel
theorem dX5_places_98 : decode cX5_places 98 = .ok (.lstore 4, 2) := by decide +kernel
theorem dX5_places_100 : decode cX5_places 100 = .ok (.iinc 6 1, 3) := by decide +kernel
theorem dX5_places_103 : decode cX5_places 103 = .ok (.goto (-41), 3) := by decide +kernel
theorem dX5_places_106 : decode cX5_places 106 = .ok (.aload_n 0, 1) := by decide +kernel
theorem dX5_places_107 : decode cX5_places 107 = .ok (.getfield 35, 3) := by decide +kernel
theorem dX5_places_110 : decode cX5_places 110 = .ok (.iload_n 2, 1) := by decide +kernel
theorem dX5_places_111 : decode cX5_places 111 = .ok (.iload_n 3, 1) := by decide +kernel
theorem dX5_places_112 : decode cX5_places 112 = .ok (.iastore, 1) := by decide +kernel
theorem dX5_places_113 : decode cX5_places 113 = .ok (.lload 4, 2) := by decide +kernel
theorem dX5_places_115 : decode cX5_places 115 = .ok (.lreturn, 1) := by decide +kernel
abbrev cX5_film : ByteArray := prog_7_method_79_code
abbrev mX5_film : MethodName := { cls := "KinInTheHeapModel", name := "film", desc := "(II)I" }
theorem mwX5_film : MWV mX5_film (.code mX5_film cX5_film 6 (some .int)) "KinInTheHeapModel" 2 := ⟨w1396, w1394, w1395, w103, w103, by decide +kernel⟩
theorem dX5_film_0 : decode cX5_film 0 = .ok (.iload_n 1, 1) := by decide +kernel
theorem dX5_film_1 : decode cX5_film 1 = .ok (.invokestatic 294, 3) := by decide +kernel
theorem dX5_film_4 : decode cX5_film 4 = .ok (.ifCond .eq 21, 3) := by decide +kernel
theorem dX5_film_7 : decode cX5_film 7 = .ok (.aload_n 0, 1) := by decide +kernel
theorem dX5_film_8 : decode cX5_film 8 = .ok (.iload_n 2, 1) := by decide +kernel
theorem dX5_film_9 : decode cX5_film 9 = .ok (.invokevirtual 89, 3) := by decide +kernel
theorem dX5_film_12 : decode cX5_film 12 = .ok (.ifCond .eq 13, 3) := by decide +kernel
theorem dX5_film_15 : decode cX5_film 15 = .ok (.aload_n 0, 1) := by decide +kernel
theorem dX5_film_16 : decode cX5_film 16 = .ok (.getfield 35, 3) := by decide +kernel
theorem dX5_film_19 : decode cX5_film 19 = .ok (.iload_n 2, 1) := by decide +kernel
theorem dX5_film_20 : decode cX5_film 20 = .ok (.iaload, 1) := by decide +kernel
theorem dX5_film_21 : decode cX5_film 21 = .ok (.iconst (-1), 1) := by decide +kernel
theorem dX5_film_22 : decode cX5_film 22 = .ok (.if_icmp .ne 6, 3) := by decide +kernel
theorem dX5_film_25 : decode cX5_film 25 = .ok (.bipush (-2), 2) := by decide +kernel
theorem dX5_film_27 : decode cX5_film 27 = .ok (.ireturn, 1) := by decide +kernel
theorem dX5_film_28 : decode cX5_film 28 = .ok (.aload_n 0, 1) := by decide +kernel
theorem dX5_film_29 : decode cX5_film 29 = .ok (.iload_n 1, 1) := by decide +kernel
theorem dX5_film_30 : decode cX5_film 30 = .ok (.iconst 0, 1) := by decide +kernel
theorem dX5_film_31 : decode cX5_film 31 = .ok (.bipush 10, 2) := by decide +kernel
theorem dX5_film_33 : decode cX5_film 33 = .ok (.invokevirtual 363, 3) := by decide +kernel
theorem dX5_film_36 : decode cX5_film 36 = .ok (.pop, 1) := by decide +kernel
theorem dX5_film_37 : decode cX5_film 37 = .ok (.aload_n 0, 1) := by decide +kernel
theorem dX5_film_38 : decode cX5_film 38 = .ok (.getfield 23, 3) := by decide +kernel
theorem dX5_film_41 : decode cX5_film 41 = .ok (.istore_n 3, 1) := by decide +kernel
theorem dX5_film_42 : decode cX5_film 42 = .ok (.iconst 0, 1) := by decide +kernel
theorem dX5_film_43 : decode cX5_film 43 = .ok (.istore 4, 2) := by decide +kernel
theorem dX5_film_45 : decode cX5_film 45 = .ok (.iconst 0, 1) := by decide +kernel
theorem dX5_film_46 : decode cX5_film 46 = .ok (.istore 5, 2) := by decide +kernel
theorem dX5_film_48 : decode cX5_film 48 = .ok (.iload 5, 2) := by decide +kernel
theorem dX5_film_50 : decode cX5_film 50 = .ok (.bipush 10, 2) := by decide +kernel
theorem dX5_film_52 : decode cX5_film 52 = .ok (.if_icmp .ge 42, 3) := by decide +kernel
theorem dX5_film_55 : decode cX5_film 55 = .ok (.aload_n 0, 1) := by decide +kernel
theorem dX5_film_56 : decode cX5_film 56 = .ok (.iload 5, 2) := by decide +kernel
theorem dX5_film_58 : decode cX5_film 58 = .ok (.putfield 23, 3) := by decide +kernel
theorem dX5_film_61 : decode cX5_film 61 = .ok (.aload_n 0, 1) := by decide +kernel
theorem dX5_film_62 : decode cX5_film 62 = .ok (.getfield 66, 3) := by decide +kernel
theorem dX5_film_65 : decode cX5_film 65 = .ok (.bipush 40, 2) := by decide +kernel
theorem dX5_film_67 : decode cX5_film 67 = .ok (.iload_n 1, 1) := by decide +kernel
theorem dX5_film_68 : decode cX5_film 68 = .ok (.imul, 1) := by decide +kernel
theorem dX5_film_69 : decode cX5_film 69 = .ok (.iload 5, 2) := by decide +kernel
theorem dX5_film_71 : decode cX5_film 71 = .ok (.iadd, 1) := by decide +kernel
theorem dX5_film_72 : decode cX5_film 72 = .ok (.aload_n 0, 1) := by decide +kernel
theorem dX5_film_73 : decode cX5_film 73 = .ok (.iload_n 2, 1) := by decide +kernel
theorem dX5_film_74 : decode cX5_film 74 = .ok (.invokevirtual 127, 3) := by decide +kernel
theorem dX5_film_77 : decode cX5_film 77 = .ok (.iastore, 1) := by decide +kernel
theorem dX5_film_78 : decode cX5_film 78 = .ok (.iload 4, 2) := by decide +kernel
theorem dX5_film_80 : decode cX5_film 80 = .ok (.aload_n 0, 1) := by decide +kernel
theorem dX5_film_81 : decode cX5_film 81 = .ok (.iload_n 2, 1) := by decide +kernel
theorem dX5_film_82 : decode cX5_film 82 = .ok (.invokevirtual 127, 3) := by decide +kernel
theorem dX5_film_85 : decode cX5_film 85 = .ok (.iadd, 1) := by decide +kernel
theorem dX5_film_86 : decode cX5_film 86 = .ok (.istore 4, 2) := by decide +kernel
theorem dX5_film_88 : decode cX5_film 88 = .ok (.iinc 5 1, 3) := by decide +kernel
theorem dX5_film_91 : decode cX5_film 91 = .ok (.goto (-43), 3) := by decide +kernel
theorem dX5_film_94 : decode cX5_film 94 = .ok (.aload_n 0, 1) := by decide +kernel
theorem dX5_film_95 : decode cX5_film 95 = .ok (.iload_n 3, 1) := by decide +kernel
theorem dX5_film_96 : decode cX5_film 96 = .ok (.putfield 23, 3) := by decide +kernel
theorem dX5_film_99 : decode cX5_film 99 = .ok (.iload 4, 2) := by decide +kernel
theorem dX5_film_101 : decode cX5_film 101 = .ok (.ireturn, 1) := by decide +kernel
abbrev cX5_outDrawn : ByteArray := prog_7_method_80_code
abbrev mX5_outDrawn : MethodName := { cls := "KinInTheHeapModel", name := "outDrawn", desc := "(II)I" }
theorem mwX5_outDrawn : MWV mX5_outDrawn (.code mX5_outDrawn cX5_outDrawn 5 (some .int)) "KinInTheHeapModel" 2 := ⟨w1409, w1408, w96, w103, w103, by decide +kernel⟩
theorem dX5_outDrawn_0 : decode cX5_outDrawn 0 = .ok (.aload_n 0, 1) := by decide +kernel
theorem dX5_outDrawn_1 : decode cX5_outDrawn 1 = .ok (.invokevirtual 304, 3) := by decide +kernel
theorem dX5_outDrawn_4 : decode cX5_outDrawn 4 = .ok (.iload_n 1, 1) := by decide +kernel
theorem dX5_outDrawn_5 : decode cX5_outDrawn 5 = .ok (.istore_n 3, 1) := by decide +kernel
theorem dX5_outDrawn_6 : decode cX5_outDrawn 6 = .ok (.iconst 0, 1) := by decide +kernel
theorem dX5_outDrawn_7 : decode cX5_outDrawn 7 = .ok (.istore 4, 2) := by decide +kernel
theorem dX5_outDrawn_9 : decode cX5_outDrawn 9 = .ok (.iload 4, 2) := by decide +kernel
theorem dX5_outDrawn_11 : decode cX5_outDrawn 11 = .ok (.iload_n 2, 1) := by decide +kernel
theorem dX5_outDrawn_12 : decode cX5_outDrawn 12 = .ok (.if_icmp .ge 31, 3) := by decide +kernel
theorem dX5_outDrawn_15 : decode cX5_outDrawn 15 = .ok (.iload_n 3, 1) := by decide +kernel
theorem dX5_outDrawn_16 : decode cX5_outDrawn 16 = .ok (.ldc_w 366, 3) := by decide +kernel
theorem dX5_outDrawn_19 : decode cX5_outDrawn 19 = .ok (.imul, 1) := by decide +kernel
theorem dX5_outDrawn_20 : decode cX5_outDrawn 20 = .ok (.sipush 12345, 3) := by decide +kernel
theorem dX5_outDrawn_23 : decode cX5_outDrawn 23 = .ok (.iadd, 1) := by decide +kernel
theorem dX5_outDrawn_24 : decode cX5_outDrawn 24 = .ok (.istore_n 3, 1) := by decide +kernel
theorem dX5_outDrawn_25 : decode cX5_outDrawn 25 = .ok (.aload_n 0, 1) := by decide +kernel
theorem dX5_outDrawn_26 : decode cX5_outDrawn 26 = .ok (.iload_n 3, 1) := by decide +kernel
theorem dX5_outDrawn_27 : decode cX5_outDrawn 27 = .ok (.bipush 9, 2) := by decide +kernel
theorem dX5_outDrawn_29 : decode cX5_outDrawn 29 = .ok (.iushr, 1) := by decide +kernel
theorem dX5_outDrawn_30 : decode cX5_outDrawn 30 = .ok (.bipush 24, 2) := by decide +kernel
theorem dX5_outDrawn_32 : decode cX5_outDrawn 32 = .ok (.irem, 1) := by decide +kernel
theorem dX5_outDrawn_33 : decode cX5_outDrawn 33 = .ok (.invokevirtual 282, 3) := by decide +kernel
theorem dX5_outDrawn_36 : decode cX5_outDrawn 36 = .ok (.pop, 1) := by decide +kernel
theorem dX5_outDrawn_37 : decode cX5_outDrawn 37 = .ok (.iinc 4 1, 3) := by decide +kernel
theorem dX5_outDrawn_40 : decode cX5_outDrawn 40 = .ok (.goto (-31), 3) := by decide +kernel
theorem dX5_outDrawn_43 : decode cX5_outDrawn 43 = .ok (.aload_n 0, 1) := by decide +kernel
theorem dX5_outDrawn_44 : decode cX5_outDrawn 44 = .ok (.invokevirtual 337, 3) := by decide +kernel
theorem dX5_outDrawn_47 : decode cX5_outDrawn 47 = .ok (.istore 4, 2) := by decide +kernel
theorem dX5_outDrawn_49 : decode cX5_outDrawn 49 = .ok (.aload_n 0, 1) := by decide +kernel
theorem dX5_outDrawn_50 : decode cX5_outDrawn 50 = .ok (.invokevirtual 319, 3) := by decide +kernel
theorem dX5_outDrawn_53 : decode cX5_outDrawn 53 = .ok (.iload 4, 2) := by decide +kernel
theorem dX5_outDrawn_55 : decode cX5_outDrawn 55 = .ok (.ireturn, 1) := by decide +kernel
abbrev cX5_drawn : ByteArray := prog_7_method_81_code
abbrev mX5_drawn : MethodName := { cls := "KinInTheHeapModel", name := "drawn", desc := "(II)I" }
theorem mwX5_drawn : MWV mX5_drawn (.code mX5_drawn cX5_drawn 3 (some .int)) "KinInTheHeapModel" 2 := ⟨w1405, w1403, w1404, w103, w103, by decide +kernel⟩
theorem dX5_drawn_0 : decode cX5_drawn 0 = .ok (.iload_n 2, 1) := by decide +kernel
theorem dX5_drawn_1 : decode cX5_drawn 1 = .ok (.i2l, 1) := by decide +kernel
theorem dX5_drawn_2 : decode cX5_drawn 2 = .ok (.lconst 0, 1) := by decide +kernel
theorem dX5_drawn_3 : decode cX5_drawn 3 = .ok (.ldc2_w 349, 3) := by decide +kernel
theorem dX5_drawn_6 : decode cX5_drawn 6 = .ok (.invokestatic 79, 3) := by decide +kernel
theorem dX5_drawn_9 : decode cX5_drawn 9 = .ok (.ifCond .eq 12, 3) := by decide +kernel
theorem dX5_drawn_12 : decode cX5_drawn 12 = .ok (.aload_n 0, 1) := by decide +kernel
theorem dX5_drawn_13 : decode cX5_drawn 13 = .ok (.iload_n 1, 1) := by decide +kernel
theorem dX5_drawn_14 : decode cX5_drawn 14 = .ok (.iload_n 2, 1) := by decide +kernel
theorem dX5_drawn_15 : decode cX5_drawn 15 = .ok (.invokevirtual 367, 3) := by decide +kernel
theorem dX5_drawn_18 : decode cX5_drawn 18 = .ok (.goto 5, 3) := by decide +kernel
theorem dX5_drawn_21 : decode cX5_drawn 21 = .ok (.bipush (-2), 2) := by decide +kernel
theorem dX5_drawn_23 : decode cX5_drawn 23 = .ok (.ireturn, 1) := by decide +kernel
abbrev cX5_chance : ByteArray := prog_7_method_82_code
abbrev mX5_chance : MethodName := { cls := "KinInTheHeapModel", name := "chance", desc := "(IIII)J" }
theorem mwX5_chance : MWV mX5_chance (.code mX5_chance cX5_chance 8 (some .long)) "KinInTheHeapModel" 4 := ⟨w1414, w1412, w1413, w103, w103, by decide +kernel⟩
theorem dX5_chance_0 : decode cX5_chance 0 = .ok (.iload_n 2, 1) := by decide +kernel
theorem dX5_chance_1 : decode cX5_chance 1 = .ok (.i2l, 1) := by decide +kernel
theorem dX5_chance_2 : decode cX5_chance 2 = .ok (.lconst 1, 1) := by decide +kernel
theorem dX5_chance_3 : decode cX5_chance 3 = .ok (.ldc2_w 370, 3) := by decide +kernel
theorem dX5_chance_6 : decode cX5_chance 6 = .ok (.invokestatic 79, 3) := by decide +kernel
theorem dX5_chance_9 : decode cX5_chance 9 = .ok (.ifCond .eq 26, 3) := by decide +kernel
theorem dX5_chance_12 : decode cX5_chance 12 = .ok (.iload_n 3, 1) := by decide +kernel
theorem dX5_chance_13 : decode cX5_chance 13 = .ok (.i2l, 1) := by decide +kernel
theorem dX5_chance_14 : decode cX5_chance 14 = .ok (.lconst 0, 1) := by decide +kernel
theorem dX5_chance_15 : decode cX5_chance 15 = .ok (.ldc2_w 372, 3) := by decide +kernel
theorem dX5_chance_18 : decode cX5_chance 18 = .ok (.invokestatic 79, 3) := by decide +kernel
theorem dX5_chance_21 : decode cX5_chance 21 = .ok (.ifCond .eq 14, 3) := by decide +kernel
theorem dX5_chance_24 : decode cX5_chance 24 = .ok (.iload 4, 2) := by decide +kernel
theorem dX5_chance_26 : decode cX5_chance 26 = .ok (.i2l, 1) := by decide +kernel
theorem dX5_chance_27 : decode cX5_chance 27 = .ok (.lconst 0, 1) := by decide +kernel
theorem dX5_chance_28 : decode cX5_chance 28 = .ok (.lconst 1, 1) := by decide +kernel
theorem dX5_chance_29 : decode cX5_chance 29 = .ok (.invokestatic 79, 3) := by decide +kernel
theorem dX5_chance_32 : decode cX5_chance 32 = .ok (.ifCond .ne 7, 3) := by decide +kernel
theorem dX5_chance_35 : decode cX5_chance 35 = .ok (.ldc2_w 325, 3) := by decide +kernel
theorem dX5_chance_38 : decode cX5_chance 38 = .ok (.lreturn, 1) := by decide +kernel
theorem dX5_chance_39 : decode cX5_chance 39 = .ok (.lconst 0, 1) := by decide +kernel
theorem dX5_chance_40 : decode cX5_chance 40 = .ok (.lstore 5, 2) := by decide +kernel
theorem dX5_chance_42 : decode cX5_chance 42 = .ok (.iconst 0, 1) := by decide +kernel
theorem dX5_chance_43 : decode cX5_chance 43 = .ok (.istore 7, 2) := by decide +kernel
theorem dX5_chance_45 : decode cX5_chance 45 = .ok (.iload 7, 2) := by decide +kernel
theorem dX5_chance_47 : decode cX5_chance 47 = .ok (.iload_n 2, 1) := by decide +kernel
theorem dX5_chance_48 : decode cX5_chance 48 = .ok (.if_icmp .ge 33, 3) := by decide +kernel
theorem dX5_chance_51 : decode cX5_chance 51 = .ok (.lload 5, 2) := by decide +kernel
theorem dX5_chance_53 : decode cX5_chance 53 = .ok (.aload_n 0, 1) := by decide +kernel
theorem dX5_chance_54 : decode cX5_chance 54 = .ok (.iload_n 1, 1) := by decide +kernel
theorem dX5_chance_55 : decode cX5_chance 55 = .ok (.iload 7, 2) := by decide +kernel
theorem dX5_chance_57 : decode cX5_chance 57 = .ok (.iadd, 1) := by decide +kernel
theorem dX5_chance_58 : decode cX5_chance 58 = .ok (.bipush 6, 2) := by decide +kernel
theorem dX5_chance_60 : decode cX5_chance 60 = .ok (.invokevirtual 367, 3) := by decide +kernel
theorem dX5_chance_63 : decode cX5_chance 63 = .ok (.iload_n 3, 1) := by decide +kernel
theorem dX5_chance_64 : decode cX5_chance 64 = .ok (.if_icmp .gt 7, 3) := by decide +kernel
theorem dX5_chance_67 : decode cX5_chance 67 = .ok (.lconst 1, 1) := by decide +kernel
theorem dX5_chance_68 : decode cX5_chance 68 = .ok (.goto 4, 3) := by decide +kernel
theorem dX5_chance_71 : decode cX5_chance 71 = .ok (.lconst 0, 1) := by decide +kernel
theorem dX5_chance_72 : decode cX5_chance 72 = .ok (.ladd, 1) := by decide +kernel
theorem dX5_chance_73 : decode cX5_chance 73 = .ok (.lstore 5, 2) := by decide +kernel
theorem dX5_chance_75 : decode cX5_chance 75 = .ok (.iinc 7 1, 3) := by decide +kernel
theorem dX5_chance_78 : decode cX5_chance 78 = .ok (.goto (-33), 3) := by decide +kernel
theorem dX5_chance_81 : decode cX5_chance 81 = .ok (.lload 5, 2) := by decide +kernel
theorem dX5_chance_83 : decode cX5_chance 83 = .ok (.iload_n 2, 1) := by decide +kernel
theorem dX5_chance_84 : decode cX5_chance 84 = .ok (.i2l, 1) := by decide +kernel
theorem dX5_chance_85 : decode cX5_chance 85 = .ok (.iload 4, 2) := by decide +kernel
theorem dX5_chance_87 : decode cX5_chance 87 = .ok (.invokestatic 351, 3) := by decide +kernel
theorem dX5_chance_90 : decode cX5_chance 90 = .ok (.lreturn, 1) := by decide +kernel
abbrev cX5_image : ByteArray := prog_7_method_83_code
abbrev mX5_image : MethodName := { cls := "KinInTheHeapModel", name := "image", desc := "()I" }
theorem mwX5_image : MWV mX5_image (.code mX5_image cX5_image 2 (some .int)) "KinInTheHeapModel" 0 := ⟨w1420, w1418, w1419, w103, w103, by decide +kernel⟩
theorem dX5_image_0 : decode cX5_image 0 = .ok (.iconst 0, 1) := by decide +kernel
theorem dX5_image_1 : decode cX5_image 1 = .ok (.istore_n 1, 1) := by decide +kernel
theorem dX5_image_2 : decode cX5_image 2 = .ok (.iload_n 1, 1) := by decide +kernel
theorem dX5_image_3 : decode cX5_image 3 = .ok (.bipush 36, 2) := by decide +kernel
theorem dX5_image_5 : decode cX5_image 5 = .ok (.if_icmp .ge 21, 3) := by decide +kernel
theorem dX5_image_8 : decode cX5_image 8 = .ok (.aload_n 0, 1) := by decide +kernel
theorem dX5_image_9 : decode cX5_image 9 = .ok (.getfield 44, 3) := by decide +kernel
theorem dX5_image_12 : decode cX5_image 12 = .ok (.iload_n 1, 1) := by decide +kernel
theorem dX5_image_13 : decode cX5_image 13 = .ok (.aload_n 0, 1) := by decide +kernel
theorem dX5_image_14 : decode cX5_image 14 = .ok (.getfield 26, 3) := by decide +kernel
theorem dX5_image_17 : decode cX5_image 17 = .ok (.iload_n 1, 1) := by decide +kernel
theorem dX5_image_18 : decode cX5_image 18 = .ok (.iaload, 1) := by decide +kernel
theorem dX5_image_19 : decode cX5_image 19 = .ok (.iastore, 1) := by decide +kernel
theorem dX5_image_20 : decode cX5_image 20 = .ok (.iinc 1 1, 3) := by decide +kernel
theorem dX5_image_23 : decode cX5_image 23 = .ok (.goto (-21), 3) := by decide +kernel
theorem dX5_image_26 : decode cX5_image 26 = .ok (.iconst 0, 1) := by decide +kernel
theorem dX5_image_27 : decode cX5_image 27 = .ok (.istore_n 1, 1) := by decide +kernel
theorem dX5_image_28 : decode cX5_image 28 = .ok (.iload_n 1, 1) := by decide +kernel
theorem dX5_image_29 : decode cX5_image 29 = .ok (.bipush 8, 2) := by decide +kernel
theorem dX5_image_31 : decode cX5_image 31 = .ok (.if_icmp .ge 33, 3) := by decide +kernel
theorem dX5_image_34 : decode cX5_image 34 = .ok (.aload_n 0, 1) := by decide +kernel
theorem dX5_image_35 : decode cX5_image 35 = .ok (.getfield 47, 3) := by decide +kernel
theorem dX5_image_38 : decode cX5_image 38 = .ok (.iload_n 1, 1) := by decide +kernel
theorem dX5_image_39 : decode cX5_image 39 = .ok (.aload_n 0, 1) := by decide +kernel
theorem dX5_image_40 : decode cX5_image 40 = .ok (.getfield 32, 3) := by decide +kernel
theorem dX5_image_43 : decode cX5_image 43 = .ok (.iload_n 1, 1) := by decide +kernel
theorem dX5_image_44 : decode cX5_image 44 = .ok (.iaload, 1) := by decide +kernel
theorem dX5_image_45 : decode cX5_image 45 = .ok (.iastore, 1) := by decide +kernel
theorem dX5_image_46 : decode cX5_image 46 = .ok (.aload_n 0, 1) := by decide +kernel
theorem dX5_image_47 : decode cX5_image 47 = .ok (.getfield 50, 3) := by decide +kernel
theorem dX5_image_50 : decode cX5_image 50 = .ok (.iload_n 1, 1) := by decide +kernel
theorem dX5_image_51 : decode cX5_image 51 = .ok (.aload_n 0, 1) := by decide +kernel
theorem dX5_image_52 : decode cX5_image 52 = .ok (.getfield 35, 3) := by decide +kernel
theorem dX5_image_55 : decode cX5_image 55 = .ok (.iload_n 1, 1) := by decide +kernel
theorem dX5_image_56 : decode cX5_image 56 = .ok (.iaload, 1) := by decide +kernel
theorem dX5_image_57 : decode cX5_image 57 = .ok (.iastore, 1) := by decide +kernel
theorem dX5_image_58 : decode cX5_image 58 = .ok (.iinc 1 1, 3) := by decide +kernel
theorem dX5_image_61 : decode cX5_image 61 = .ok (.goto (-33), 3) := by decide +kernel
theorem dX5_image_64 : decode cX5_image 64 = .ok (.aload_n 0, 1) := by decide +kernel
theorem dX5_image_65 : decode cX5_image 65 = .ok (.aload_n 0, 1) := by decide +kernel
theorem dX5_image_66 : decode cX5_image 66 = .ok (.getfield 76, 3) := by decide +kernel
theorem dX5_image_69 : decode cX5_image 69 = .ok (.putfield 53, 3) := by decide +kernel
theorem dX5_image_72 : decode cX5_image 72 = .ok (.aload_n 0, 1) := by decide +kernel
theorem dX5_image_73 : decode cX5_image 73 = .ok (.aload_n 0, 1) := by decide +kernel
theorem dX5_image_74 : decode cX5_image 74 = .ok (.getfield 112, 3) := by decide +kernel
theorem dX5_image_77 : decode cX5_image 77 = .ok (.putfield 374, 3) := by decide +kernel
theorem dX5_image_80 : decode cX5_image 80 = .ok (.aload_n 0, 1) := by decide +kernel
theorem dX5_image_81 : decode cX5_image 81 = .ok (.aload_n 0, 1) := by decide +kernel
theorem dX5_image_82 : decode cX5_image 82 = .ok (.getfield 23, 3) := by decide +kernel
theorem dX5_image_85 : decode cX5_image 85 = .ok (.putfield 377, 3) := by decide +kernel
theorem dX5_image_88 : decode cX5_image 88 = .ok (.aload_n 0, 1) := by decide +kernel
theorem dX5_image_89 : decode cX5_image 89 = .ok (.aload_n 0, 1) := by decide +kernel
theorem dX5_image_90 : decode cX5_image 90 = .ok (.getfield 115, 3) := by decide +kernel
theorem dX5_image_93 : decode cX5_image 93 = .ok (.putfield 380, 3) := by decide +kernel
theorem dX5_image_96 : decode cX5_image 96 = .ok (.aload_n 0, 1) := by decide +kernel
theorem dX5_image_97 : decode cX5_image 97 = .ok (.getfield 76, 3) := by decide +kernel
theorem dX5_image_100 : decode cX5_image 100 = .ok (.ireturn, 1) := by decide +kernel
