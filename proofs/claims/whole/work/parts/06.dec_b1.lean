abbrev cX4_setNumber : ByteArray := prog_1_method_41_code
abbrev mX4_setNumber : MethodName := { cls := "KinInTheHeap", name := "setNumber", desc := "(II)I" }
theorem mwX4_setNumber : MWV mX4_setNumber (.code mX4_setNumber cX4_setNumber 4 (some .int)) "KinInTheHeap" 2 := ⟨w322, w321, w3, w98, w98, by decide +kernel⟩
theorem dX4_setNumber_0 : decode cX4_setNumber 0 = .ok (.aload_n 0, 1) := by decide +kernel
theorem dX4_setNumber_1 : decode cX4_setNumber 1 = .ok (.getfield 42, 3) := by decide +kernel
theorem dX4_setNumber_4 : decode cX4_setNumber 4 = .ok (.iload_n 1, 1) := by decide +kernel
theorem dX4_setNumber_5 : decode cX4_setNumber 5 = .ok (.invokevirtual 91, 3) := by decide +kernel
theorem dX4_setNumber_8 : decode cX4_setNumber 8 = .ok (.ifCond .eq 13, 3) := by decide +kernel
theorem dX4_setNumber_11 : decode cX4_setNumber 11 = .ok (.iload_n 2, 1) := by decide +kernel
theorem dX4_setNumber_12 : decode cX4_setNumber 12 = .ok (.iconst 0, 1) := by decide +kernel
theorem dX4_setNumber_13 : decode cX4_setNumber 13 = .ok (.bipush 9, 2) := by decide +kernel
theorem dX4_setNumber_15 : decode cX4_setNumber 15 = .ok (.invokestatic 101, 3) := by decide +kernel
theorem dX4_setNumber_18 : decode cX4_setNumber 18 = .ok (.ifCond .ne 7, 3) := by decide +kernel
theorem dX4_setNumber_21 : decode cX4_setNumber 21 = .ok (.sipush (-1000), 3) := by decide +kernel
theorem dX4_setNumber_24 : decode cX4_setNumber 24 = .ok (.ireturn, 1) := by decide +kernel
theorem dX4_setNumber_25 : decode cX4_setNumber 25 = .ok (.aload_n 0, 1) := by decide +kernel
theorem dX4_setNumber_26 : decode cX4_setNumber 26 = .ok (.getfield 42, 3) := by decide +kernel
theorem dX4_setNumber_29 : decode cX4_setNumber 29 = .ok (.getfield 280, 3) := by decide +kernel
theorem dX4_setNumber_32 : decode cX4_setNumber 32 = .ok (.iload_n 1, 1) := by decide +kernel
theorem dX4_setNumber_33 : decode cX4_setNumber 33 = .ok (.iaload, 1) := by decide +kernel
theorem dX4_setNumber_34 : decode cX4_setNumber 34 = .ok (.istore_n 3, 1) := by decide +kernel
theorem dX4_setNumber_35 : decode cX4_setNumber 35 = .ok (.aload_n 0, 1) := by decide +kernel
theorem dX4_setNumber_36 : decode cX4_setNumber 36 = .ok (.getfield 42, 3) := by decide +kernel
theorem dX4_setNumber_39 : decode cX4_setNumber 39 = .ok (.getfield 280, 3) := by decide +kernel
theorem dX4_setNumber_42 : decode cX4_setNumber 42 = .ok (.iload_n 1, 1) := by decide +kernel
theorem dX4_setNumber_43 : decode cX4_setNumber 43 = .ok (.iload_n 2, 1) := by decide +kernel
theorem dX4_setNumber_44 : decode cX4_setNumber 44 = .ok (.iastore, 1) := by decide +kernel
theorem dX4_setNumber_45 : decode cX4_setNumber 45 = .ok (.iload_n 3, 1) := by decide +kernel
theorem dX4_setNumber_46 : decode cX4_setNumber 46 = .ok (.ireturn, 1) := by decide +kernel
abbrev cX4_setPlace : ByteArray := prog_1_method_42_code
abbrev mX4_setPlace : MethodName := { cls := "KinInTheHeap", name := "setPlace", desc := "(II)I" }
theorem mwX4_setPlace : MWV mX4_setPlace (.code mX4_setPlace cX4_setPlace 4 (some .int)) "KinInTheHeap" 2 := ⟨w331, w330, w4, w98, w98, by decide +kernel⟩
theorem dX4_setPlace_0 : decode cX4_setPlace 0 = .ok (.aload_n 0, 1) := by decide +kernel
theorem dX4_setPlace_1 : decode cX4_setPlace 1 = .ok (.getfield 42, 3) := by decide +kernel
theorem dX4_setPlace_4 : decode cX4_setPlace 4 = .ok (.iload_n 1, 1) := by decide +kernel
theorem dX4_setPlace_5 : decode cX4_setPlace 5 = .ok (.invokevirtual 91, 3) := by decide +kernel
theorem dX4_setPlace_8 : decode cX4_setPlace 8 = .ok (.ifCond .eq 15, 3) := by decide +kernel
theorem dX4_setPlace_11 : decode cX4_setPlace 11 = .ok (.iload_n 2, 1) := by decide +kernel
theorem dX4_setPlace_12 : decode cX4_setPlace 12 = .ok (.iconst (-1), 1) := by decide +kernel
theorem dX4_setPlace_13 : decode cX4_setPlace 13 = .ok (.if_icmp .eq 14, 3) := by decide +kernel
theorem dX4_setPlace_16 : decode cX4_setPlace 16 = .ok (.iload_n 2, 1) := by decide +kernel
theorem dX4_setPlace_17 : decode cX4_setPlace 17 = .ok (.invokestatic 283, 3) := by decide +kernel
theorem dX4_setPlace_20 : decode cX4_setPlace 20 = .ok (.ifCond .ne 7, 3) := by decide +kernel
theorem dX4_setPlace_23 : decode cX4_setPlace 23 = .ok (.sipush (-1000), 3) := by decide +kernel
theorem dX4_setPlace_26 : decode cX4_setPlace 26 = .ok (.ireturn, 1) := by decide +kernel
theorem dX4_setPlace_27 : decode cX4_setPlace 27 = .ok (.aload_n 0, 1) := by decide +kernel
theorem dX4_setPlace_28 : decode cX4_setPlace 28 = .ok (.getfield 42, 3) := by decide +kernel
theorem dX4_setPlace_31 : decode cX4_setPlace 31 = .ok (.getfield 152, 3) := by decide +kernel
theorem dX4_setPlace_34 : decode cX4_setPlace 34 = .ok (.iload_n 1, 1) := by decide +kernel
theorem dX4_setPlace_35 : decode cX4_setPlace 35 = .ok (.iaload, 1) := by decide +kernel
theorem dX4_setPlace_36 : decode cX4_setPlace 36 = .ok (.istore_n 3, 1) := by decide +kernel
theorem dX4_setPlace_37 : decode cX4_setPlace 37 = .ok (.aload_n 0, 1) := by decide +kernel
theorem dX4_setPlace_38 : decode cX4_setPlace 38 = .ok (.getfield 42, 3) := by decide +kernel
theorem dX4_setPlace_41 : decode cX4_setPlace 41 = .ok (.getfield 152, 3) := by decide +kernel
theorem dX4_setPlace_44 : decode cX4_setPlace 44 = .ok (.iload_n 1, 1) := by decide +kernel
theorem dX4_setPlace_45 : decode cX4_setPlace 45 = .ok (.iload_n 2, 1) := by decide +kernel
theorem dX4_setPlace_46 : decode cX4_setPlace 46 = .ok (.iastore, 1) := by decide +kernel
theorem dX4_setPlace_47 : decode cX4_setPlace 47 = .ok (.iload_n 3, 1) := by decide +kernel
theorem dX4_setPlace_48 : decode cX4_setPlace 48 = .ok (.ireturn, 1) := by decide +kernel
abbrev cX4_toldOfCell : ByteArray := prog_1_method_43_code
abbrev mX4_toldOfCell : MethodName := { cls := "KinInTheHeap", name := "toldOfCell", desc := "(II)I" }
theorem mwX4_toldOfCell : MWV mX4_toldOfCell (.code mX4_toldOfCell cX4_toldOfCell 3 (some .int)) "KinInTheHeap" 2 := ⟨w350, w349, w5, w98, w98, by decide +kernel⟩
theorem dX4_toldOfCell_0 : decode cX4_toldOfCell 0 = .ok (.iload_n 1, 1) := by decide +kernel
theorem dX4_toldOfCell_1 : decode cX4_toldOfCell 1 = .ok (.invokestatic 283, 3) := by decide +kernel
theorem dX4_toldOfCell_4 : decode cX4_toldOfCell 4 = .ok (.ifCond .ne 7, 3) := by decide +kernel
theorem dX4_toldOfCell_7 : decode cX4_toldOfCell 7 = .ok (.sipush (-1000), 3) := by decide +kernel
theorem dX4_toldOfCell_10 : decode cX4_toldOfCell 10 = .ok (.ireturn, 1) := by decide +kernel
theorem dX4_toldOfCell_11 : decode cX4_toldOfCell 11 = .ok (.iload_n 2, 1) := by decide +kernel
theorem dX4_toldOfCell_12 : decode cX4_toldOfCell 12 = .ok (.bipush 10, 2) := by decide +kernel
theorem dX4_toldOfCell_14 : decode cX4_toldOfCell 14 = .ok (.if_icmp .ne 12, 3) := by decide +kernel
theorem dX4_toldOfCell_17 : decode cX4_toldOfCell 17 = .ok (.aload_n 0, 1) := by decide +kernel
theorem dX4_toldOfCell_18 : decode cX4_toldOfCell 18 = .ok (.getfield 42, 3) := by decide +kernel
theorem dX4_toldOfCell_21 : decode cX4_toldOfCell 21 = .ok (.iload_n 1, 1) := by decide +kernel
theorem dX4_toldOfCell_22 : decode cX4_toldOfCell 22 = .ok (.invokevirtual 168, 3) := by decide +kernel
theorem dX4_toldOfCell_25 : decode cX4_toldOfCell 25 = .ok (.ireturn, 1) := by decide +kernel
theorem dX4_toldOfCell_26 : decode cX4_toldOfCell 26 = .ok (.aload_n 0, 1) := by decide +kernel
theorem dX4_toldOfCell_27 : decode cX4_toldOfCell 27 = .ok (.getfield 42, 3) := by decide +kernel
theorem dX4_toldOfCell_30 : decode cX4_toldOfCell 30 = .ok (.iload_n 1, 1) := by decide +kernel
theorem dX4_toldOfCell_31 : decode cX4_toldOfCell 31 = .ok (.invokevirtual 286, 3) := by decide +kernel
theorem dX4_toldOfCell_34 : decode cX4_toldOfCell 34 = .ok (.ifCond .eq 7, 3) := by decide +kernel
theorem dX4_toldOfCell_37 : decode cX4_toldOfCell 37 = .ok (.iconst 1, 1) := by decide +kernel
theorem dX4_toldOfCell_38 : decode cX4_toldOfCell 38 = .ok (.goto 4, 3) := by decide +kernel
theorem dX4_toldOfCell_41 : decode cX4_toldOfCell 41 = .ok (.iconst 0, 1) := by decide +kernel
theorem dX4_toldOfCell_42 : decode cX4_toldOfCell 42 = .ok (.ireturn, 1) := by decide +kernel
abbrev cX4_toldOfDust : ByteArray := prog_1_method_44_code
abbrev mX4_toldOfDust : MethodName := { cls := "KinInTheHeap", name := "toldOfDust", desc := "(II)I" }
theorem mwX4_toldOfDust : MWV mX4_toldOfDust (.code mX4_toldOfDust cX4_toldOfDust 3 (some .int)) "KinInTheHeap" 2 := ⟨w358, w357, w6, w98, w98, by decide +kernel⟩
theorem dX4_toldOfDust_0 : decode cX4_toldOfDust 0 = .ok (.iload_n 2, 1) := by decide +kernel
theorem dX4_toldOfDust_1 : decode cX4_toldOfDust 1 = .ok (.tableswitch 57 3 5 #[27, 37, 47], 27) := by decide +kernel
theorem dX4_toldOfDust_28 : decode cX4_toldOfDust 28 = .ok (.aload_n 0, 1) := by decide +kernel
theorem dX4_toldOfDust_29 : decode cX4_toldOfDust 29 = .ok (.getfield 42, 3) := by decide +kernel
theorem dX4_toldOfDust_32 : decode cX4_toldOfDust 32 = .ok (.getfield 280, 3) := by decide +kernel
theorem dX4_toldOfDust_35 : decode cX4_toldOfDust 35 = .ok (.iload_n 1, 1) := by decide +kernel
theorem dX4_toldOfDust_36 : decode cX4_toldOfDust 36 = .ok (.iaload, 1) := by decide +kernel
theorem dX4_toldOfDust_37 : decode cX4_toldOfDust 37 = .ok (.ireturn, 1) := by decide +kernel
theorem dX4_toldOfDust_38 : decode cX4_toldOfDust 38 = .ok (.aload_n 0, 1) := by decide +kernel
theorem dX4_toldOfDust_39 : decode cX4_toldOfDust 39 = .ok (.getfield 42, 3) := by decide +kernel
theorem dX4_toldOfDust_42 : decode cX4_toldOfDust 42 = .ok (.getfield 152, 3) := by decide +kernel
theorem dX4_toldOfDust_45 : decode cX4_toldOfDust 45 = .ok (.iload_n 1, 1) := by decide +kernel
theorem dX4_toldOfDust_46 : decode cX4_toldOfDust 46 = .ok (.iaload, 1) := by decide +kernel
theorem dX4_toldOfDust_47 : decode cX4_toldOfDust 47 = .ok (.ireturn, 1) := by decide +kernel
theorem dX4_toldOfDust_48 : decode cX4_toldOfDust 48 = .ok (.aload_n 0, 1) := by decide +kernel
theorem dX4_toldOfDust_49 : decode cX4_toldOfDust 49 = .ok (.getfield 42, 3) := by decide +kernel
theorem dX4_toldOfDust_52 : decode cX4_toldOfDust 52 = .ok (.getfield 274, 3) := by decide +kernel
theorem dX4_toldOfDust_55 : decode cX4_toldOfDust 55 = .ok (.iload_n 1, 1) := by decide +kernel
theorem dX4_toldOfDust_56 : decode cX4_toldOfDust 56 = .ok (.iaload, 1) := by decide +kernel
theorem dX4_toldOfDust_57 : decode cX4_toldOfDust 57 = .ok (.ireturn, 1) := by decide +kernel
theorem dX4_toldOfDust_58 : decode cX4_toldOfDust 58 = .ok (.aload_n 0, 1) := by decide +kernel
theorem dX4_toldOfDust_59 : decode cX4_toldOfDust 59 = .ok (.getfield 42, 3) := by decide +kernel
theorem dX4_toldOfDust_62 : decode cX4_toldOfDust 62 = .ok (.aload_n 0, 1) := by decide +kernel
theorem dX4_toldOfDust_63 : decode cX4_toldOfDust 63 = .ok (.getfield 42, 3) := by decide +kernel
theorem dX4_toldOfDust_66 : decode cX4_toldOfDust 66 = .ok (.getfield 152, 3) := by decide +kernel
theorem dX4_toldOfDust_69 : decode cX4_toldOfDust 69 = .ok (.iload_n 1, 1) := by decide +kernel
theorem dX4_toldOfDust_70 : decode cX4_toldOfDust 70 = .ok (.iaload, 1) := by decide +kernel
theorem dX4_toldOfDust_71 : decode cX4_toldOfDust 71 = .ok (.invokevirtual 168, 3) := by decide +kernel
theorem dX4_toldOfDust_74 : decode cX4_toldOfDust 74 = .ok (.ireturn, 1) := by decide +kernel
abbrev cX4_toldOfGoing : ByteArray := prog_1_method_45_code
abbrev mX4_toldOfGoing : MethodName := { cls := "KinInTheHeap", name := "toldOfGoing", desc := "(II)I" }
theorem mwX4_toldOfGoing : MWV mX4_toldOfGoing (.code mX4_toldOfGoing cX4_toldOfGoing 3 (some .int)) "KinInTheHeap" 2 := ⟨w362, w361, w7, w98, w98, by decide +kernel⟩
theorem dX4_toldOfGoing_0 : decode cX4_toldOfGoing 0 = .ok (.aload_n 0, 1) := by decide +kernel
theorem dX4_toldOfGoing_1 : decode cX4_toldOfGoing 1 = .ok (.getfield 42, 3) := by decide +kernel
theorem dX4_toldOfGoing_4 : decode cX4_toldOfGoing 4 = .ok (.iload_n 1, 1) := by decide +kernel
theorem dX4_toldOfGoing_5 : decode cX4_toldOfGoing 5 = .ok (.invokevirtual 210, 3) := by decide +kernel
theorem dX4_toldOfGoing_8 : decode cX4_toldOfGoing 8 = .ok (.ifCond .ne 5, 3) := by decide +kernel
theorem dX4_toldOfGoing_11 : decode cX4_toldOfGoing 11 = .ok (.iconst (-1), 1) := by decide +kernel
theorem dX4_toldOfGoing_12 : decode cX4_toldOfGoing 12 = .ok (.ireturn, 1) := by decide +kernel
theorem dX4_toldOfGoing_13 : decode cX4_toldOfGoing 13 = .ok (.iload_n 2, 1) := by decide +kernel
theorem dX4_toldOfGoing_14 : decode cX4_toldOfGoing 14 = .ok (.lookupswitch 52 #[(7, 26), (8, 35)], 26) := by decide +kernel
theorem dX4_toldOfGoing_40 : decode cX4_toldOfGoing 40 = .ok (.aload_n 0, 1) := by decide +kernel
theorem dX4_toldOfGoing_41 : decode cX4_toldOfGoing 41 = .ok (.getfield 42, 3) := by decide +kernel
theorem dX4_toldOfGoing_44 : decode cX4_toldOfGoing 44 = .ok (.iload_n 1, 1) := by decide +kernel
theorem dX4_toldOfGoing_45 : decode cX4_toldOfGoing 45 = .ok (.invokevirtual 232, 3) := by decide +kernel
theorem dX4_toldOfGoing_48 : decode cX4_toldOfGoing 48 = .ok (.ireturn, 1) := by decide +kernel
theorem dX4_toldOfGoing_49 : decode cX4_toldOfGoing 49 = .ok (.aload_n 0, 1) := by decide +kernel
theorem dX4_toldOfGoing_50 : decode cX4_toldOfGoing 50 = .ok (.getfield 42, 3) := by decide +kernel
theorem dX4_toldOfGoing_53 : decode cX4_toldOfGoing 53 = .ok (.iload_n 1, 1) := by decide +kernel
theorem dX4_toldOfGoing_54 : decode cX4_toldOfGoing 54 = .ok (.invokevirtual 291, 3) := by decide +kernel
theorem dX4_toldOfGoing_57 : decode cX4_toldOfGoing 57 = .ok (.ifCond .eq 7, 3) := by decide +kernel
theorem dX4_toldOfGoing_60 : decode cX4_toldOfGoing 60 = .ok (.iconst 1, 1) := by decide +kernel
theorem dX4_toldOfGoing_61 : decode cX4_toldOfGoing 61 = .ok (.goto 4, 3) := by decide +kernel
theorem dX4_toldOfGoing_64 : decode cX4_toldOfGoing 64 = .ok (.iconst 0, 1) := by decide +kernel
theorem dX4_toldOfGoing_65 : decode cX4_toldOfGoing 65 = .ok (.ireturn, 1) := by decide +kernel
theorem dX4_toldOfGoing_66 : decode cX4_toldOfGoing 66 = .ok (.aload_n 0, 1) := by decide +kernel
theorem dX4_toldOfGoing_67 : decode cX4_toldOfGoing 67 = .ok (.getfield 42, 3) := by decide +kernel
theorem dX4_toldOfGoing_70 : decode cX4_toldOfGoing 70 = .ok (.iload_n 1, 1) := by decide +kernel
theorem dX4_toldOfGoing_71 : decode cX4_toldOfGoing 71 = .ok (.invokevirtual 294, 3) := by decide +kernel
theorem dX4_toldOfGoing_74 : decode cX4_toldOfGoing 74 = .ok (.ireturn, 1) := by decide +kernel
abbrev cX4_strokesRefused : ByteArray := prog_1_method_46_code
abbrev mX4_strokesRefused : MethodName := { cls := "KinInTheHeap", name := "strokesRefused", desc := "(LKinInTheHeap$Sheet;)I" }
theorem mwX4_strokesRefused : MWS mX4_strokesRefused (.code mX4_strokesRefused cX4_strokesRefused 2 (some .int)) 1 := ⟨w682, w681, w98, by decide +kernel⟩
theorem dX4_strokesRefused_0 : decode cX4_strokesRefused 0 = .ok (.aload_n 0, 1) := by decide +kernel
theorem dX4_strokesRefused_1 : decode cX4_strokesRefused 1 = .ok (.invokevirtual 252, 3) := by decide +kernel
theorem dX4_strokesRefused_4 : decode cX4_strokesRefused 4 = .ok (.ifCond .eq 6, 3) := by decide +kernel
theorem dX4_strokesRefused_7 : decode cX4_strokesRefused 7 = .ok (.bipush (-11), 2) := by decide +kernel
theorem dX4_strokesRefused_9 : decode cX4_strokesRefused 9 = .ok (.ireturn, 1) := by decide +kernel
theorem dX4_strokesRefused_10 : decode cX4_strokesRefused 10 = .ok (.iconst 0, 1) := by decide +kernel
theorem dX4_strokesRefused_11 : decode cX4_strokesRefused 11 = .ok (.istore_n 1, 1) := by decide +kernel
theorem dX4_strokesRefused_12 : decode cX4_strokesRefused 12 = .ok (.iload_n 1, 1) := by decide +kernel
theorem dX4_strokesRefused_13 : decode cX4_strokesRefused 13 = .ok (.aload_n 0, 1) := by decide +kernel
theorem dX4_strokesRefused_14 : decode cX4_strokesRefused 14 = .ok (.getfield 297, 3) := by decide +kernel
theorem dX4_strokesRefused_17 : decode cX4_strokesRefused 17 = .ok (.if_icmp .ge 24, 3) := by decide +kernel
theorem dX4_strokesRefused_20 : decode cX4_strokesRefused 20 = .ok (.aload_n 0, 1) := by decide +kernel
theorem dX4_strokesRefused_21 : decode cX4_strokesRefused 21 = .ok (.getfield 262, 3) := by decide +kernel
theorem dX4_strokesRefused_24 : decode cX4_strokesRefused 24 = .ok (.iload_n 1, 1) := by decide +kernel
theorem dX4_strokesRefused_25 : decode cX4_strokesRefused 25 = .ok (.iaload, 1) := by decide +kernel
theorem dX4_strokesRefused_26 : decode cX4_strokesRefused 26 = .ok (.invokestatic 120, 3) := by decide +kernel
theorem dX4_strokesRefused_29 : decode cX4_strokesRefused 29 = .ok (.ifCond .ne 6, 3) := by decide +kernel
theorem dX4_strokesRefused_32 : decode cX4_strokesRefused 32 = .ok (.bipush (-2), 2) := by decide +kernel
theorem dX4_strokesRefused_34 : decode cX4_strokesRefused 34 = .ok (.ireturn, 1) := by decide +kernel
theorem dX4_strokesRefused_35 : decode cX4_strokesRefused 35 = .ok (.iinc 1 1, 3) := by decide +kernel
theorem dX4_strokesRefused_38 : decode cX4_strokesRefused 38 = .ok (.goto (-26), 3) := by decide +kernel
theorem dX4_strokesRefused_41 : decode cX4_strokesRefused 41 = .ok (.iconst 0, 1) := by decide +kernel
theorem dX4_strokesRefused_42 : decode cX4_strokesRefused 42 = .ok (.ireturn, 1) := by decide +kernel
abbrev cX4_brushAll : ByteArray := prog_1_method_47_code
abbrev mX4_brushAll : MethodName := { cls := "KinInTheHeap", name := "brushAll", desc := "(LKinInTheHeap$Floor;LKinInTheHeap$Sheet;)I" }
theorem mwX4_brushAll : MWS mX4_brushAll (.code mX4_brushAll cX4_brushAll 4 (some .int)) 2 := ⟨w696, w695, w98, by decide +kernel⟩
theorem dX4_brushAll_0 : decode cX4_brushAll 0 = .ok (.iconst 0, 1) := by decide +kernel
theorem dX4_brushAll_1 : decode cX4_brushAll 1 = .ok (.istore_n 2, 1) := by decide +kernel
theorem dX4_brushAll_2 : decode cX4_brushAll 2 = .ok (.iconst 0, 1) := by decide +kernel
theorem dX4_brushAll_3 : decode cX4_brushAll 3 = .ok (.istore_n 3, 1) := by decide +kernel
theorem dX4_brushAll_4 : decode cX4_brushAll 4 = .ok (.iload_n 3, 1) := by decide +kernel
theorem dX4_brushAll_5 : decode cX4_brushAll 5 = .ok (.aload_n 1, 1) := by decide +kernel
theorem dX4_brushAll_6 : decode cX4_brushAll 6 = .ok (.getfield 297, 3) := by decide +kernel
theorem dX4_brushAll_9 : decode cX4_brushAll 9 = .ok (.if_icmp .ge 22, 3) := by decide +kernel
theorem dX4_brushAll_12 : decode cX4_brushAll 12 = .ok (.iload_n 2, 1) := by decide +kernel
theorem dX4_brushAll_13 : decode cX4_brushAll 13 = .ok (.aload_n 0, 1) := by decide +kernel
theorem dX4_brushAll_14 : decode cX4_brushAll 14 = .ok (.aload_n 1, 1) := by decide +kernel
theorem dX4_brushAll_15 : decode cX4_brushAll 15 = .ok (.getfield 262, 3) := by decide +kernel
theorem dX4_brushAll_18 : decode cX4_brushAll 18 = .ok (.iload_n 3, 1) := by decide +kernel
theorem dX4_brushAll_19 : decode cX4_brushAll 19 = .ok (.iaload, 1) := by decide +kernel
theorem dX4_brushAll_20 : decode cX4_brushAll 20 = .ok (.invokevirtual 123, 3) := by decide +kernel
theorem dX4_brushAll_23 : decode cX4_brushAll 23 = .ok (.iadd, 1) := by decide +kernel
theorem dX4_brushAll_24 : decode cX4_brushAll 24 = .ok (.istore_n 2, 1) := by decide +kernel
theorem dX4_brushAll_25 : decode cX4_brushAll 25 = .ok (.iinc 3 1, 3) := by decide +kernel
theorem dX4_brushAll_28 : decode cX4_brushAll 28 = .ok (.goto (-24), 3) := by decide +kernel
theorem dX4_brushAll_31 : decode cX4_brushAll 31 = .ok (.iload_n 2, 1) := by decide +kernel
theorem dX4_brushAll_32 : decode cX4_brushAll 32 = .ok (.ireturn, 1) := by decide +kernel
abbrev cX4_measure : ByteArray := prog_1_method_48_code
abbrev mX4_measure : MethodName := { cls := "KinInTheHeap", name := "measure", desc := "(LKinInTheHeap$Floor;I)I" }
theorem mwX4_measure : MWS mX4_measure (.code mX4_measure cX4_measure 2 (some .int)) 2 := ⟨w699, w698, w98, by decide +kernel⟩
theorem dX4_measure_0 : decode cX4_measure 0 = .ok (.iload_n 1, 1) := by decide +kernel
theorem dX4_measure_1 : decode cX4_measure 1 = .ok (.lookupswitch 37 #[(1, 27), (2, 32)], 27) := by decide +kernel
theorem dX4_measure_28 : decode cX4_measure 28 = .ok (.aload_n 0, 1) := by decide +kernel
theorem dX4_measure_29 : decode cX4_measure 29 = .ok (.invokevirtual 162, 3) := by decide +kernel
theorem dX4_measure_32 : decode cX4_measure 32 = .ok (.ireturn, 1) := by decide +kernel
theorem dX4_measure_33 : decode cX4_measure 33 = .ok (.aload_n 0, 1) := by decide +kernel
theorem dX4_measure_34 : decode cX4_measure 34 = .ok (.invokevirtual 156, 3) := by decide +kernel
theorem dX4_measure_37 : decode cX4_measure 37 = .ok (.ireturn, 1) := by decide +kernel
theorem dX4_measure_38 : decode cX4_measure 38 = .ok (.aload_n 0, 1) := by decide +kernel
theorem dX4_measure_39 : decode cX4_measure 39 = .ok (.invokevirtual 165, 3) := by decide +kernel
theorem dX4_measure_42 : decode cX4_measure 42 = .ok (.ireturn, 1) := by decide +kernel
abbrev cX4_think : ByteArray := prog_1_method_49_code
abbrev mX4_think : MethodName := { cls := "KinInTheHeap", name := "think", desc := "(I)V" }
theorem mwX4_think : MWV mX4_think (.code mX4_think cX4_think 2 none) "KinInTheHeap" 1 := ⟨w750, w749, w30, w98, w98, by decide +kernel⟩
theorem dX4_think_0 : decode cX4_think 0 = .ok (.aload_n 0, 1) := by decide +kernel
theorem dX4_think_1 : decode cX4_think 1 = .ok (.getfield 49, 3) := by decide +kernel
theorem dX4_think_4 : decode cX4_think 4 = .ok (.aload_n 0, 1) := by decide +kernel
theorem dX4_think_5 : decode cX4_think 5 = .ok (.getfield 42, 3) := by decide +kernel
theorem dX4_think_8 : decode cX4_think 8 = .ok (.invokevirtual 140, 3) := by decide +kernel
theorem dX4_think_11 : decode cX4_think 11 = .ok (.aload_n 0, 1) := by decide +kernel
theorem dX4_think_12 : decode cX4_think 12 = .ok (.getfield 49, 3) := by decide +kernel
theorem dX4_think_15 : decode cX4_think 15 = .ok (.iload_n 1, 1) := by decide +kernel
theorem dX4_think_16 : decode cX4_think 16 = .ok (.invokevirtual 123, 3) := by decide +kernel
theorem dX4_think_19 : decode cX4_think 19 = .ok (.pop, 1) := by decide +kernel
theorem dX4_think_20 : decode cX4_think 20 = .ok (.return_, 1) := by decide +kernel
abbrev cX4_reached : ByteArray := prog_1_method_50_code
abbrev mX4_reached : MethodName := { cls := "KinInTheHeap", name := "reached", desc := "(I)J" }
theorem mwX4_reached : MWV mX4_reached (.code mX4_reached cX4_reached 5 (some .long)) "KinInTheHeap" 1 := ⟨w746, w745, w29, w98, w98, by decide +kernel⟩
theorem dX4_reached_0 : decode cX4_reached 0 = .ok (.lconst 0, 1) := by decide +kernel
theorem dX4_reached_1 : decode cX4_reached 1 = .ok (.lstore_n 2, 1) := by decide +kernel
theorem dX4_reached_2 : decode cX4_reached 2 = .ok (.aload_n 0, 1) := by decide +kernel
theorem dX4_reached_3 : decode cX4_reached 3 = .ok (.getfield 42, 3) := by decide +kernel
theorem dX4_reached_6 : decode cX4_reached 6 = .ok (.iload_n 1, 1) := by decide +kernel
theorem dX4_reached_7 : decode cX4_reached 7 = .ok (.invokevirtual 210, 3) := by decide +kernel
theorem dX4_reached_10 : decode cX4_reached 10 = .ok (.ifCond .ne 5, 3) := by decide +kernel
theorem dX4_reached_13 : decode cX4_reached 13 = .ok (.lload_n 2, 1) := by decide +kernel
theorem dX4_reached_14 : decode cX4_reached 14 = .ok (.lreturn, 1) := by decide +kernel
theorem dX4_reached_15 : decode cX4_reached 15 = .ok (.iconst 0, 1) := by decide +kernel
theorem dX4_reached_16 : decode cX4_reached 16 = .ok (.istore 4, 2) := by decide +kernel
theorem dX4_reached_18 : decode cX4_reached 18 = .ok (.iload 4, 2) := by decide +kernel
theorem dX4_reached_20 : decode cX4_reached 20 = .ok (.bipush 24, 2) := by decide +kernel
theorem dX4_reached_22 : decode cX4_reached 22 = .ok (.if_icmp .ge 40, 3) := by decide +kernel
theorem dX4_reached_25 : decode cX4_reached 25 = .ok (.aload_n 0, 1) := by decide +kernel
theorem dX4_reached_26 : decode cX4_reached 26 = .ok (.iload 4, 2) := by decide +kernel
theorem dX4_reached_28 : decode cX4_reached 28 = .ok (.invokevirtual 197, 3) := by decide +kernel
theorem dX4_reached_31 : decode cX4_reached 31 = .ok (.aload_n 0, 1) := by decide +kernel
theorem dX4_reached_32 : decode cX4_reached 32 = .ok (.getfield 49, 3) := by decide +kernel
theorem dX4_reached_35 : decode cX4_reached 35 = .ok (.iload_n 1, 1) := by decide +kernel
theorem dX4_reached_36 : decode cX4_reached 36 = .ok (.invokevirtual 210, 3) := by decide +kernel
theorem dX4_reached_39 : decode cX4_reached 39 = .ok (.ifCond .eq 17, 3) := by decide +kernel
theorem dX4_reached_42 : decode cX4_reached 42 = .ok (.lload_n 2, 1) := by decide +kernel
theorem dX4_reached_43 : decode cX4_reached 43 = .ok (.lconst 1, 1) := by decide +kernel
theorem dX4_reached_44 : decode cX4_reached 44 = .ok (.aload_n 0, 1) := by decide +kernel
theorem dX4_reached_45 : decode cX4_reached 45 = .ok (.getfield 49, 3) := by decide +kernel
theorem dX4_reached_48 : decode cX4_reached 48 = .ok (.getfield 152, 3) := by decide +kernel
theorem dX4_reached_51 : decode cX4_reached 51 = .ok (.iload_n 1, 1) := by decide +kernel
theorem dX4_reached_52 : decode cX4_reached 52 = .ok (.iaload, 1) := by decide +kernel
theorem dX4_reached_53 : decode cX4_reached 53 = .ok (.lshl, 1) := by decide +kernel
theorem dX4_reached_54 : decode cX4_reached 54 = .ok (.lor, 1) := by decide +kernel
theorem dX4_reached_55 : decode cX4_reached 55 = .ok (.lstore_n 2, 1) := by decide +kernel
theorem dX4_reached_56 : decode cX4_reached 56 = .ok (.iinc 4 1, 3) := by decide +kernel
theorem dX4_reached_59 : decode cX4_reached 59 = .ok (.goto (-41), 3) := by decide +kernel
theorem dX4_reached_62 : decode cX4_reached 62 = .ok (.lload_n 2, 1) := by decide +kernel
theorem dX4_reached_63 : decode cX4_reached 63 = .ok (.lreturn, 1) := by decide +kernel
abbrev cX4_gathering : ByteArray := prog_1_method_51_code
abbrev mX4_gathering : MethodName := { cls := "KinInTheHeap", name := "gathering", desc := "(I)I" }
theorem mwX4_gathering : MWV mX4_gathering (.code mX4_gathering cX4_gathering 4 (some .int)) "KinInTheHeap" 1 := ⟨w758, w757, w31, w98, w98, by decide +kernel⟩
theorem dX4_gathering_0 : decode cX4_gathering 0 = .ok (.aload_n 0, 1) := by decide +kernel
theorem dX4_gathering_1 : decode cX4_gathering 1 = .ok (.getfield 42, 3) := by decide +kernel
theorem dX4_gathering_4 : decode cX4_gathering 4 = .ok (.iload_n 1, 1) := by decide +kernel
theorem dX4_gathering_5 : decode cX4_gathering 5 = .ok (.invokevirtual 298, 3) := by decide +kernel
theorem dX4_gathering_8 : decode cX4_gathering 8 = .ok (.ifCond .eq 5, 3) := by decide +kernel
theorem dX4_gathering_11 : decode cX4_gathering 11 = .ok (.iconst 0, 1) := by decide +kernel
theorem dX4_gathering_12 : decode cX4_gathering 12 = .ok (.ireturn, 1) := by decide +kernel
theorem dX4_gathering_13 : decode cX4_gathering 13 = .ok (.iconst 0, 1) := by decide +kernel
theorem dX4_gathering_14 : decode cX4_gathering 14 = .ok (.istore_n 2, 1) := by decide +kernel
theorem dX4_gathering_15 : decode cX4_gathering 15 = .ok (.iload_n 2, 1) := by decide +kernel
theorem dX4_gathering_16 : decode cX4_gathering 16 = .ok (.bipush 24, 2) := by decide +kernel
theorem dX4_gathering_18 : decode cX4_gathering 18 = .ok (.if_icmp .ge 29, 3) := by decide +kernel
theorem dX4_gathering_21 : decode cX4_gathering 21 = .ok (.aload_n 0, 1) := by decide +kernel
theorem dX4_gathering_22 : decode cX4_gathering 22 = .ok (.iload_n 2, 1) := by decide +kernel
theorem dX4_gathering_23 : decode cX4_gathering 23 = .ok (.invokevirtual 197, 3) := by decide +kernel
theorem dX4_gathering_26 : decode cX4_gathering 26 = .ok (.aload_n 0, 1) := by decide +kernel
theorem dX4_gathering_27 : decode cX4_gathering 27 = .ok (.getfield 49, 3) := by decide +kernel
theorem dX4_gathering_30 : decode cX4_gathering 30 = .ok (.iload_n 1, 1) := by decide +kernel
theorem dX4_gathering_31 : decode cX4_gathering 31 = .ok (.invokevirtual 298, 3) := by decide +kernel
theorem dX4_gathering_34 : decode cX4_gathering 34 = .ok (.ifCond .eq 7, 3) := by decide +kernel
theorem dX4_gathering_37 : decode cX4_gathering 37 = .ok (.iload_n 2, 1) := by decide +kernel
theorem dX4_gathering_38 : decode cX4_gathering 38 = .ok (.iconst 1, 1) := by decide +kernel
theorem dX4_gathering_39 : decode cX4_gathering 39 = .ok (.iadd, 1) := by decide +kernel
theorem dX4_gathering_40 : decode cX4_gathering 40 = .ok (.ireturn, 1) := by decide +kernel
theorem dX4_gathering_41 : decode cX4_gathering 41 = .ok (.iinc 2 1, 3) := by decide +kernel
theorem dX4_gathering_44 : decode cX4_gathering 44 = .ok (.goto (-29), 3) := by decide +kernel
theorem dX4_gathering_47 : decode cX4_gathering 47 = .ok (.iconst 0, 1) := by decide +kernel
theorem dX4_gathering_48 : decode cX4_gathering 48 = .ok (.istore_n 2, 1) := by decide +kernel
theorem dX4_gathering_49 : decode cX4_gathering 49 = .ok (.iload_n 2, 1) := by decide +kernel
theorem dX4_gathering_50 : decode cX4_gathering 50 = .ok (.bipush 24, 2) := by decide +kernel
theorem dX4_gathering_52 : decode cX4_gathering 52 = .ok (.if_icmp .ge 36, 3) := by decide +kernel
theorem dX4_gathering_55 : decode cX4_gathering 55 = .ok (.aload_n 0, 1) := by decide +kernel
theorem dX4_gathering_56 : decode cX4_gathering 56 = .ok (.iload_n 2, 1) := by decide +kernel
theorem dX4_gathering_57 : decode cX4_gathering 57 = .ok (.invokevirtual 197, 3) := by decide +kernel
theorem dX4_gathering_60 : decode cX4_gathering 60 = .ok (.aload_n 0, 1) := by decide +kernel
theorem dX4_gathering_61 : decode cX4_gathering 61 = .ok (.iload_n 1, 1) := by decide +kernel
theorem dX4_gathering_62 : decode cX4_gathering 62 = .ok (.invokevirtual 301, 3) := by decide +kernel
theorem dX4_gathering_65 : decode cX4_gathering 65 = .ok (.istore_n 3, 1) := by decide +kernel
theorem dX4_gathering_66 : decode cX4_gathering 66 = .ok (.iload_n 3, 1) := by decide +kernel
theorem dX4_gathering_67 : decode cX4_gathering 67 = .ok (.iconst (-1), 1) := by decide +kernel
theorem dX4_gathering_68 : decode cX4_gathering 68 = .ok (.if_icmp .eq 14, 3) := by decide +kernel
theorem dX4_gathering_71 : decode cX4_gathering 71 = .ok (.bipush 100, 2) := by decide +kernel
theorem dX4_gathering_73 : decode cX4_gathering 73 = .ok (.iload_n 2, 1) := by decide +kernel
theorem dX4_gathering_74 : decode cX4_gathering 74 = .ok (.iconst 1, 1) := by decide +kernel
theorem dX4_gathering_75 : decode cX4_gathering 75 = .ok (.iadd, 1) := by decide +kernel
theorem dX4_gathering_76 : decode cX4_gathering 76 = .ok (.imul, 1) := by decide +kernel
theorem dX4_gathering_77 : decode cX4_gathering 77 = .ok (.iload_n 3, 1) := by decide +kernel
theorem dX4_gathering_78 : decode cX4_gathering 78 = .ok (.iadd, 1) := by decide +kernel
theorem dX4_gathering_79 : decode cX4_gathering 79 = .ok (.iconst 1, 1) := by decide +kernel
theorem dX4_gathering_80 : decode cX4_gathering 80 = .ok (.iadd, 1) := by decide +kernel
theorem dX4_gathering_81 : decode cX4_gathering 81 = .ok (.ireturn, 1) := by decide +kernel
theorem dX4_gathering_82 : decode cX4_gathering 82 = .ok (.iinc 2 1, 3) := by decide +kernel
theorem dX4_gathering_85 : decode cX4_gathering 85 = .ok (.goto (-36), 3) := by decide +kernel
theorem dX4_gathering_88 : decode cX4_gathering 88 = .ok (.iconst (-1), 1) := by decide +kernel
theorem dX4_gathering_89 : decode cX4_gathering 89 = .ok (.ireturn, 1) := by decide +kernel
abbrev cX4_lastGathering : ByteArray := prog_1_method_52_code
abbrev mX4_lastGathering : MethodName := { cls := "KinInTheHeap", name := "lastGathering", desc := "(I)I" }
theorem mwX4_lastGathering : MWV mX4_lastGathering (.code mX4_lastGathering cX4_lastGathering 3 (some .int)) "KinInTheHeap" 1 := ⟨w766, w765, w32, w98, w98, by decide +kernel⟩
theorem dX4_lastGathering_0 : decode cX4_lastGathering 0 = .ok (.iconst 0, 1) := by decide +kernel
theorem dX4_lastGathering_1 : decode cX4_lastGathering 1 = .ok (.istore_n 2, 1) := by decide +kernel
theorem dX4_lastGathering_2 : decode cX4_lastGathering 2 = .ok (.iload_n 2, 1) := by decide +kernel
theorem dX4_lastGathering_3 : decode cX4_lastGathering 3 = .ok (.bipush 24, 2) := by decide +kernel
theorem dX4_lastGathering_5 : decode cX4_lastGathering 5 = .ok (.if_icmp .ge 42, 3) := by decide +kernel
theorem dX4_lastGathering_8 : decode cX4_lastGathering 8 = .ok (.aload_n 0, 1) := by decide +kernel
theorem dX4_lastGathering_9 : decode cX4_lastGathering 9 = .ok (.getfield 52, 3) := by decide +kernel
theorem dX4_lastGathering_12 : decode cX4_lastGathering 12 = .ok (.aload_n 0, 1) := by decide +kernel
theorem dX4_lastGathering_13 : decode cX4_lastGathering 13 = .ok (.getfield 49, 3) := by decide +kernel
theorem dX4_lastGathering_16 : decode cX4_lastGathering 16 = .ok (.invokevirtual 140, 3) := by decide +kernel
theorem dX4_lastGathering_19 : decode cX4_lastGathering 19 = .ok (.aload_n 0, 1) := by decide +kernel
theorem dX4_lastGathering_20 : decode cX4_lastGathering 20 = .ok (.getfield 52, 3) := by decide +kernel
theorem dX4_lastGathering_23 : decode cX4_lastGathering 23 = .ok (.iload_n 2, 1) := by decide +kernel
theorem dX4_lastGathering_24 : decode cX4_lastGathering 24 = .ok (.invokevirtual 123, 3) := by decide +kernel
theorem dX4_lastGathering_27 : decode cX4_lastGathering 27 = .ok (.pop, 1) := by decide +kernel
theorem dX4_lastGathering_28 : decode cX4_lastGathering 28 = .ok (.aload_n 0, 1) := by decide +kernel
theorem dX4_lastGathering_29 : decode cX4_lastGathering 29 = .ok (.getfield 52, 3) := by decide +kernel
theorem dX4_lastGathering_32 : decode cX4_lastGathering 32 = .ok (.iload_n 1, 1) := by decide +kernel
theorem dX4_lastGathering_33 : decode cX4_lastGathering 33 = .ok (.invokevirtual 298, 3) := by decide +kernel
theorem dX4_lastGathering_36 : decode cX4_lastGathering 36 = .ok (.ifCond .eq 5, 3) := by decide +kernel
theorem dX4_lastGathering_39 : decode cX4_lastGathering 39 = .ok (.iload_n 2, 1) := by decide +kernel
theorem dX4_lastGathering_40 : decode cX4_lastGathering 40 = .ok (.ireturn, 1) := by decide +kernel
theorem dX4_lastGathering_41 : decode cX4_lastGathering 41 = .ok (.iinc 2 1, 3) := by decide +kernel
theorem dX4_lastGathering_44 : decode cX4_lastGathering 44 = .ok (.goto (-42), 3) := by decide +kernel
theorem dX4_lastGathering_47 : decode cX4_lastGathering 47 = .ok (.iconst (-1), 1) := by decide +kernel
theorem dX4_lastGathering_48 : decode cX4_lastGathering 48 = .ok (.ireturn, 1) := by decide +kernel
abbrev cX4_mostTogether : ByteArray := prog_1_method_53_code
abbrev mX4_mostTogether : MethodName := { cls := "KinInTheHeap", name := "mostTogether", desc := "()I" }
theorem mwX4_mostTogether : MWV mX4_mostTogether (.code mX4_mostTogether cX4_mostTogether 5 (some .int)) "KinInTheHeap" 0 := ⟨w774, w773, w33, w98, w98, by decide +kernel⟩
theorem dX4_mostTogether_0 : decode cX4_mostTogether 0 = .ok (.iconst 0, 1) := by decide +kernel
theorem dX4_mostTogether_1 : decode cX4_mostTogether 1 = .ok (.istore_n 1, 1) := by decide +kernel
theorem dX4_mostTogether_2 : decode cX4_mostTogether 2 = .ok (.iconst (-1), 1) := by decide +kernel
theorem dX4_mostTogether_3 : decode cX4_mostTogether 3 = .ok (.istore_n 2, 1) := by decide +kernel
theorem dX4_mostTogether_4 : decode cX4_mostTogether 4 = .ok (.iconst 0, 1) := by decide +kernel
theorem dX4_mostTogether_5 : decode cX4_mostTogether 5 = .ok (.istore_n 3, 1) := by decide +kernel
theorem dX4_mostTogether_6 : decode cX4_mostTogether 6 = .ok (.iload_n 3, 1) := by decide +kernel
theorem dX4_mostTogether_7 : decode cX4_mostTogether 7 = .ok (.bipush 24, 2) := by decide +kernel
theorem dX4_mostTogether_9 : decode cX4_mostTogether 9 = .ok (.if_icmp .ge 34, 3) := by decide +kernel
theorem dX4_mostTogether_12 : decode cX4_mostTogether 12 = .ok (.aload_n 0, 1) := by decide +kernel
theorem dX4_mostTogether_13 : decode cX4_mostTogether 13 = .ok (.iload_n 3, 1) := by decide +kernel
theorem dX4_mostTogether_14 : decode cX4_mostTogether 14 = .ok (.invokevirtual 197, 3) := by decide +kernel
theorem dX4_mostTogether_17 : decode cX4_mostTogether 17 = .ok (.aload_n 0, 1) := by decide +kernel
theorem dX4_mostTogether_18 : decode cX4_mostTogether 18 = .ok (.getfield 49, 3) := by decide +kernel
theorem dX4_mostTogether_21 : decode cX4_mostTogether 21 = .ok (.invokevirtual 162, 3) := by decide +kernel
theorem dX4_mostTogether_24 : decode cX4_mostTogether 24 = .ok (.istore 4, 2) := by decide +kernel
theorem dX4_mostTogether_26 : decode cX4_mostTogether 26 = .ok (.iload 4, 2) := by decide +kernel
theorem dX4_mostTogether_28 : decode cX4_mostTogether 28 = .ok (.iload_n 2, 1) := by decide +kernel
theorem dX4_mostTogether_29 : decode cX4_mostTogether 29 = .ok (.if_icmp .le 8, 3) := by decide +kernel
theorem dX4_mostTogether_32 : decode cX4_mostTogether 32 = .ok (.iload 4, 2) := by decide +kernel
theorem dX4_mostTogether_34 : decode cX4_mostTogether 34 = .ok (.istore_n 2, 1) := by decide +kernel
theorem dX4_mostTogether_35 : decode cX4_mostTogether 35 = .ok (.iload_n 3, 1) := by decide +kernel
theorem dX4_mostTogether_36 : decode cX4_mostTogether 36 = .ok (.istore_n 1, 1) := by decide +kernel
theorem dX4_mostTogether_37 : decode cX4_mostTogether 37 = .ok (.iinc 3 1, 3) := by decide +kernel
theorem dX4_mostTogether_40 : decode cX4_mostTogether 40 = .ok (.goto (-34), 3) := by decide +kernel
theorem dX4_mostTogether_43 : decode cX4_mostTogether 43 = .ok (.iload_n 1, 1) := by decide +kernel
theorem dX4_mostTogether_44 : decode cX4_mostTogether 44 = .ok (.ireturn, 1) := by decide +kernel
abbrev cX4_leastSpread : ByteArray := prog_1_method_54_code
abbrev mX4_leastSpread : MethodName := { cls := "KinInTheHeap", name := "leastSpread", desc := "()I" }
theorem mwX4_leastSpread : MWV mX4_leastSpread (.code mX4_leastSpread cX4_leastSpread 5 (some .int)) "KinInTheHeap" 0 := ⟨w778, w777, w34, w98, w98, by decide +kernel⟩
theorem dX4_leastSpread_0 : decode cX4_leastSpread 0 = .ok (.iconst 0, 1) := by decide +kernel
theorem dX4_leastSpread_1 : decode cX4_leastSpread 1 = .ok (.istore_n 1, 1) := by decide +kernel
theorem dX4_leastSpread_2 : decode cX4_leastSpread 2 = .ok (.iconst (-1), 1) := by decide +kernel
theorem dX4_leastSpread_3 : decode cX4_leastSpread 3 = .ok (.istore_n 2, 1) := by decide +kernel
theorem dX4_leastSpread_4 : decode cX4_leastSpread 4 = .ok (.iconst 0, 1) := by decide +kernel
theorem dX4_leastSpread_5 : decode cX4_leastSpread 5 = .ok (.istore_n 3, 1) := by decide +kernel
theorem dX4_leastSpread_6 : decode cX4_leastSpread 6 = .ok (.iload_n 3, 1) := by decide +kernel
theorem dX4_leastSpread_7 : decode cX4_leastSpread 7 = .ok (.bipush 24, 2) := by decide +kernel
theorem dX4_leastSpread_9 : decode cX4_leastSpread 9 = .ok (.if_icmp .ge 38, 3) := by decide +kernel
theorem dX4_leastSpread_12 : decode cX4_leastSpread 12 = .ok (.aload_n 0, 1) := by decide +kernel
theorem dX4_leastSpread_13 : decode cX4_leastSpread 13 = .ok (.iload_n 3, 1) := by decide +kernel
theorem dX4_leastSpread_14 : decode cX4_leastSpread 14 = .ok (.invokevirtual 197, 3) := by decide +kernel
theorem dX4_leastSpread_17 : decode cX4_leastSpread 17 = .ok (.aload_n 0, 1) := by decide +kernel
theorem dX4_leastSpread_18 : decode cX4_leastSpread 18 = .ok (.getfield 49, 3) := by decide +kernel
theorem dX4_leastSpread_21 : decode cX4_leastSpread 21 = .ok (.invokevirtual 165, 3) := by decide +kernel
theorem dX4_leastSpread_24 : decode cX4_leastSpread 24 = .ok (.istore 4, 2) := by decide +kernel
theorem dX4_leastSpread_26 : decode cX4_leastSpread 26 = .ok (.iload_n 2, 1) := by decide +kernel
theorem dX4_leastSpread_27 : decode cX4_leastSpread 27 = .ok (.ifCond .lt 9, 3) := by decide +kernel
theorem dX4_leastSpread_30 : decode cX4_leastSpread 30 = .ok (.iload 4, 2) := by decide +kernel
theorem dX4_leastSpread_32 : decode cX4_leastSpread 32 = .ok (.iload_n 2, 1) := by decide +kernel
theorem dX4_leastSpread_33 : decode cX4_leastSpread 33 = .ok (.if_icmp .ge 8, 3) := by decide +kernel
theorem dX4_leastSpread_36 : decode cX4_leastSpread 36 = .ok (.iload 4, 2) := by decide +kernel
theorem dX4_leastSpread_38 : decode cX4_leastSpread 38 = .ok (.istore_n 2, 1) := by decide +kernel
theorem dX4_leastSpread_39 : decode cX4_leastSpread 39 = .ok (.iload_n 3, 1) := by decide +kernel
theorem dX4_leastSpread_40 : decode cX4_leastSpread 40 = .ok (.istore_n 1, 1) := by decide +kernel
theorem dX4_leastSpread_41 : decode cX4_leastSpread 41 = .ok (.iinc 3 1, 3) := by decide +kernel
theorem dX4_leastSpread_44 : decode cX4_leastSpread 44 = .ok (.goto (-38), 3) := by decide +kernel
theorem dX4_leastSpread_47 : decode cX4_leastSpread 47 = .ok (.iload_n 1, 1) := by decide +kernel
theorem dX4_leastSpread_48 : decode cX4_leastSpread 48 = .ok (.ireturn, 1) := by decide +kernel
abbrev cX4_fewestLost : ByteArray := prog_1_method_55_code
abbrev mX4_fewestLost : MethodName := { cls := "KinInTheHeap", name := "fewestLost", desc := "()I" }
theorem mwX4_fewestLost : MWV mX4_fewestLost (.code mX4_fewestLost cX4_fewestLost 5 (some .int)) "KinInTheHeap" 0 := ⟨w782, w781, w35, w98, w98, by decide +kernel⟩
theorem dX4_fewestLost_0 : decode cX4_fewestLost 0 = .ok (.iconst (-1), 1) := by decide +kernel
theorem dX4_fewestLost_1 : decode cX4_fewestLost 1 = .ok (.istore_n 1, 1) := by decide +kernel
theorem dX4_fewestLost_2 : decode cX4_fewestLost 2 = .ok (.bipush 9, 2) := by decide +kernel
theorem dX4_fewestLost_4 : decode cX4_fewestLost 4 = .ok (.istore_n 2, 1) := by decide +kernel
theorem dX4_fewestLost_5 : decode cX4_fewestLost 5 = .ok (.iconst 0, 1) := by decide +kernel
theorem dX4_fewestLost_6 : decode cX4_fewestLost 6 = .ok (.istore_n 3, 1) := by decide +kernel
theorem dX4_fewestLost_7 : decode cX4_fewestLost 7 = .ok (.iload_n 3, 1) := by decide +kernel
theorem dX4_fewestLost_8 : decode cX4_fewestLost 8 = .ok (.bipush 24, 2) := by decide +kernel
theorem dX4_fewestLost_10 : decode cX4_fewestLost 10 = .ok (.if_icmp .ge 48, 3) := by decide +kernel
theorem dX4_fewestLost_13 : decode cX4_fewestLost 13 = .ok (.aload_n 0, 1) := by decide +kernel
theorem dX4_fewestLost_14 : decode cX4_fewestLost 14 = .ok (.iload_n 3, 1) := by decide +kernel
theorem dX4_fewestLost_15 : decode cX4_fewestLost 15 = .ok (.invokevirtual 197, 3) := by decide +kernel
theorem dX4_fewestLost_18 : decode cX4_fewestLost 18 = .ok (.aload_n 0, 1) := by decide +kernel
theorem dX4_fewestLost_19 : decode cX4_fewestLost 19 = .ok (.getfield 49, 3) := by decide +kernel
theorem dX4_fewestLost_22 : decode cX4_fewestLost 22 = .ok (.invokevirtual 201, 3) := by decide +kernel
theorem dX4_fewestLost_25 : decode cX4_fewestLost 25 = .ok (.istore 4, 2) := by decide +kernel
theorem dX4_fewestLost_27 : decode cX4_fewestLost 27 = .ok (.iload 4, 2) := by decide +kernel
theorem dX4_fewestLost_29 : decode cX4_fewestLost 29 = .ok (.iload_n 2, 1) := by decide +kernel
theorem dX4_fewestLost_30 : decode cX4_fewestLost 30 = .ok (.if_icmp .ge 22, 3) := by decide +kernel
theorem dX4_fewestLost_33 : decode cX4_fewestLost 33 = .ok (.aload_n 0, 1) := by decide +kernel
theorem dX4_fewestLost_34 : decode cX4_fewestLost 34 = .ok (.getfield 49, 3) := by decide +kernel
theorem dX4_fewestLost_37 : decode cX4_fewestLost 37 = .ok (.aload_n 0, 1) := by decide +kernel
theorem dX4_fewestLost_38 : decode cX4_fewestLost 38 = .ok (.getfield 42, 3) := by decide +kernel
theorem dX4_fewestLost_41 : decode cX4_fewestLost 41 = .ok (.invokevirtual 304, 3) := by decide +kernel
theorem dX4_fewestLost_44 : decode cX4_fewestLost 44 = .ok (.ifCond .eq 8, 3) := by decide +kernel
theorem dX4_fewestLost_47 : decode cX4_fewestLost 47 = .ok (.iload 4, 2) := by decide +kernel
theorem dX4_fewestLost_49 : decode cX4_fewestLost 49 = .ok (.istore_n 2, 1) := by decide +kernel
theorem dX4_fewestLost_50 : decode cX4_fewestLost 50 = .ok (.iload_n 3, 1) := by decide +kernel
theorem dX4_fewestLost_51 : decode cX4_fewestLost 51 = .ok (.istore_n 1, 1) := by decide +kernel
theorem dX4_fewestLost_52 : decode cX4_fewestLost 52 = .ok (.iinc 3 1, 3) := by decide +kernel
theorem dX4_fewestLost_55 : decode cX4_fewestLost 55 = .ok (.goto (-48), 3) := by decide +kernel
theorem dX4_fewestLost_58 : decode cX4_fewestLost 58 = .ok (.iload_n 1, 1) := by decide +kernel
theorem dX4_fewestLost_59 : decode cX4_fewestLost 59 = .ok (.ireturn, 1) := by decide +kernel
abbrev cX4_saving : ByteArray := prog_1_method_56_code
abbrev mX4_saving : MethodName := { cls := "KinInTheHeap", name := "saving", desc := "(I)I" }
theorem mwX4_saving : MWV mX4_saving (.code mX4_saving cX4_saving 6 (some .int)) "KinInTheHeap" 1 := ⟨w805, w804, w36, w98, w98, by decide +kernel⟩
theorem dX4_saving_0 : decode cX4_saving 0 = .ok (.iconst (-1), 1) := by decide +kernel
theorem dX4_saving_1 : decode cX4_saving 1 = .ok (.istore_n 2, 1) := by decide +kernel
theorem dX4_saving_2 : decode cX4_saving 2 = .ok (.aload_n 0, 1) := by decide +kernel
theorem dX4_saving_3 : decode cX4_saving 3 = .ok (.iload_n 1, 1) := by decide +kernel
theorem dX4_saving_4 : decode cX4_saving 4 = .ok (.iconst (-1), 1) := by decide +kernel
theorem dX4_saving_5 : decode cX4_saving 5 = .ok (.invokevirtual 207, 3) := by decide +kernel
theorem dX4_saving_8 : decode cX4_saving 8 = .ok (.istore_n 3, 1) := by decide +kernel
theorem dX4_saving_9 : decode cX4_saving 9 = .ok (.iconst 0, 1) := by decide +kernel
theorem dX4_saving_10 : decode cX4_saving 10 = .ok (.istore 4, 2) := by decide +kernel
theorem dX4_saving_12 : decode cX4_saving 12 = .ok (.iload 4, 2) := by decide +kernel
theorem dX4_saving_14 : decode cX4_saving 14 = .ok (.bipush 36, 2) := by decide +kernel
theorem dX4_saving_16 : decode cX4_saving 16 = .ok (.if_icmp .ge 54, 3) := by decide +kernel
theorem dX4_saving_19 : decode cX4_saving 19 = .ok (.aload_n 0, 1) := by decide +kernel
theorem dX4_saving_20 : decode cX4_saving 20 = .ok (.getfield 42, 3) := by decide +kernel
theorem dX4_saving_23 : decode cX4_saving 23 = .ok (.iload 4, 2) := by decide +kernel
theorem dX4_saving_25 : decode cX4_saving 25 = .ok (.invokevirtual 286, 3) := by decide +kernel
theorem dX4_saving_28 : decode cX4_saving 28 = .ok (.ifCond .ne 36, 3) := by decide +kernel
theorem dX4_saving_31 : decode cX4_saving 31 = .ok (.aload_n 0, 1) := by decide +kernel
theorem dX4_saving_32 : decode cX4_saving 32 = .ok (.getfield 42, 3) := by decide +kernel
theorem dX4_saving_35 : decode cX4_saving 35 = .ok (.iload 4, 2) := by decide +kernel
theorem dX4_saving_37 : decode cX4_saving 37 = .ok (.invokevirtual 168, 3) := by decide +kernel
theorem dX4_saving_40 : decode cX4_saving 40 = .ok (.ifCond .ne 24, 3) := by decide +kernel
theorem dX4_saving_43 : decode cX4_saving 43 = .ok (.aload_n 0, 1) := by decide +kernel
theorem dX4_saving_44 : decode cX4_saving 44 = .ok (.iload_n 1, 1) := by decide +kernel
theorem dX4_saving_45 : decode cX4_saving 45 = .ok (.iload 4, 2) := by decide +kernel
theorem dX4_saving_47 : decode cX4_saving 47 = .ok (.invokevirtual 207, 3) := by decide +kernel
theorem dX4_saving_50 : decode cX4_saving 50 = .ok (.istore 5, 2) := by decide +kernel
theorem dX4_saving_52 : decode cX4_saving 52 = .ok (.iload 5, 2) := by decide +kernel
theorem dX4_saving_54 : decode cX4_saving 54 = .ok (.iload_n 3, 1) := by decide +kernel
theorem dX4_saving_55 : decode cX4_saving 55 = .ok (.if_icmp .ge 9, 3) := by decide +kernel
theorem dX4_saving_58 : decode cX4_saving 58 = .ok (.iload 5, 2) := by decide +kernel
theorem dX4_saving_60 : decode cX4_saving 60 = .ok (.istore_n 3, 1) := by decide +kernel
theorem dX4_saving_61 : decode cX4_saving 61 = .ok (.iload 4, 2) := by decide +kernel
theorem dX4_saving_63 : decode cX4_saving 63 = .ok (.istore_n 2, 1) := by decide +kernel
theorem dX4_saving_64 : decode cX4_saving 64 = .ok (.iinc 4 1, 3) := by decide +kernel
theorem dX4_saving_67 : decode cX4_saving 67 = .ok (.goto (-55), 3) := by decide +kernel
theorem dX4_saving_70 : decode cX4_saving 70 = .ok (.iload_n 2, 1) := by decide +kernel
theorem dX4_saving_71 : decode cX4_saving 71 = .ok (.ireturn, 1) := by decide +kernel
abbrev cX4_outWithCrack : ByteArray := prog_1_method_57_code
abbrev mX4_outWithCrack : MethodName := { cls := "KinInTheHeap", name := "outWithCrack", desc := "(II)I" }
theorem mwX4_outWithCrack : MWV mX4_outWithCrack (.code mX4_outWithCrack cX4_outWithCrack 3 (some .int)) "KinInTheHeap" 2 := ⟨w809, w808, w37, w98, w98, by decide +kernel⟩
theorem dX4_outWithCrack_0 : decode cX4_outWithCrack 0 = .ok (.aload_n 0, 1) := by decide +kernel
theorem dX4_outWithCrack_1 : decode cX4_outWithCrack 1 = .ok (.getfield 49, 3) := by decide +kernel
theorem dX4_outWithCrack_4 : decode cX4_outWithCrack 4 = .ok (.aload_n 0, 1) := by decide +kernel
theorem dX4_outWithCrack_5 : decode cX4_outWithCrack 5 = .ok (.getfield 42, 3) := by decide +kernel
theorem dX4_outWithCrack_8 : decode cX4_outWithCrack 8 = .ok (.invokevirtual 140, 3) := by decide +kernel
theorem dX4_outWithCrack_11 : decode cX4_outWithCrack 11 = .ok (.iload_n 2, 1) := by decide +kernel
theorem dX4_outWithCrack_12 : decode cX4_outWithCrack 12 = .ok (.iconst (-1), 1) := by decide +kernel
theorem dX4_outWithCrack_13 : decode cX4_outWithCrack 13 = .ok (.if_icmp .eq 18, 3) := by decide +kernel
theorem dX4_outWithCrack_16 : decode cX4_outWithCrack 16 = .ok (.aload_n 0, 1) := by decide +kernel
theorem dX4_outWithCrack_17 : decode cX4_outWithCrack 17 = .ok (.getfield 49, 3) := by decide +kernel
theorem dX4_outWithCrack_20 : decode cX4_outWithCrack 20 = .ok (.dup, 1) := by decide +kernel
theorem dX4_outWithCrack_21 : decode cX4_outWithCrack 21 = .ok (.getfield 175, 3) := by decide +kernel
theorem dX4_outWithCrack_24 : decode cX4_outWithCrack 24 = .ok (.lconst 1, 1) := by decide +kernel
theorem dX4_outWithCrack_25 : decode cX4_outWithCrack 25 = .ok (.iload_n 2, 1) := by decide +kernel
theorem dX4_outWithCrack_26 : decode cX4_outWithCrack 26 = .ok (.lshl, 1) := by decide +kernel
theorem dX4_outWithCrack_27 : decode cX4_outWithCrack 27 = .ok (.lor, 1) := by decide +kernel
theorem dX4_outWithCrack_28 : decode cX4_outWithCrack 28 = .ok (.putfield 175, 3) := by decide +kernel
theorem dX4_outWithCrack_31 : decode cX4_outWithCrack 31 = .ok (.aload_n 0, 1) := by decide +kernel
theorem dX4_outWithCrack_32 : decode cX4_outWithCrack 32 = .ok (.getfield 49, 3) := by decide +kernel
theorem dX4_outWithCrack_35 : decode cX4_outWithCrack 35 = .ok (.iload_n 1, 1) := by decide +kernel
theorem dX4_outWithCrack_36 : decode cX4_outWithCrack 36 = .ok (.invokevirtual 123, 3) := by decide +kernel
theorem dX4_outWithCrack_39 : decode cX4_outWithCrack 39 = .ok (.pop, 1) := by decide +kernel
theorem dX4_outWithCrack_40 : decode cX4_outWithCrack 40 = .ok (.aload_n 0, 1) := by decide +kernel
theorem dX4_outWithCrack_41 : decode cX4_outWithCrack 41 = .ok (.getfield 49, 3) := by decide +kernel
theorem dX4_outWithCrack_44 : decode cX4_outWithCrack 44 = .ok (.invokevirtual 201, 3) := by decide +kernel
theorem dX4_outWithCrack_47 : decode cX4_outWithCrack 47 = .ok (.ireturn, 1) := by decide +kernel
abbrev cX4_outByDrawn : ByteArray := prog_1_method_58_code
abbrev mX4_outByDrawn : MethodName := { cls := "KinInTheHeap", name := "outByDrawn", desc := "(II)I" }
theorem mwX4_outByDrawn : MWV mX4_outByDrawn (.code mX4_outByDrawn cX4_outByDrawn 5 (some .int)) "KinInTheHeap" 2 := ⟨w885, w884, w46, w98, w98, by decide +kernel⟩
theorem dX4_outByDrawn_0 : decode cX4_outByDrawn 0 = .ok (.aload_n 0, 1) := by decide +kernel
theorem dX4_outByDrawn_1 : decode cX4_outByDrawn 1 = .ok (.getfield 49, 3) := by decide +kernel
theorem dX4_outByDrawn_4 : decode cX4_outByDrawn 4 = .ok (.aload_n 0, 1) := by decide +kernel
theorem dX4_outByDrawn_5 : decode cX4_outByDrawn 5 = .ok (.getfield 42, 3) := by decide +kernel
theorem dX4_outByDrawn_8 : decode cX4_outByDrawn 8 = .ok (.invokevirtual 140, 3) := by decide +kernel
theorem dX4_outByDrawn_11 : decode cX4_outByDrawn 11 = .ok (.iload_n 1, 1) := by decide +kernel
theorem dX4_outByDrawn_12 : decode cX4_outByDrawn 12 = .ok (.istore_n 3, 1) := by decide +kernel
theorem dX4_outByDrawn_13 : decode cX4_outByDrawn 13 = .ok (.iconst 0, 1) := by decide +kernel
theorem dX4_outByDrawn_14 : decode cX4_outByDrawn 14 = .ok (.istore 4, 2) := by decide +kernel
theorem dX4_outByDrawn_16 : decode cX4_outByDrawn 16 = .ok (.iload 4, 2) := by decide +kernel
theorem dX4_outByDrawn_18 : decode cX4_outByDrawn 18 = .ok (.iload_n 2, 1) := by decide +kernel
theorem dX4_outByDrawn_19 : decode cX4_outByDrawn 19 = .ok (.if_icmp .ge 34, 3) := by decide +kernel
theorem dX4_outByDrawn_22 : decode cX4_outByDrawn 22 = .ok (.iload_n 3, 1) := by decide +kernel
theorem dX4_outByDrawn_23 : decode cX4_outByDrawn 23 = .ok (.ldc_w 308, 3) := by decide +kernel
theorem dX4_outByDrawn_26 : decode cX4_outByDrawn 26 = .ok (.imul, 1) := by decide +kernel
theorem dX4_outByDrawn_27 : decode cX4_outByDrawn 27 = .ok (.sipush 12345, 3) := by decide +kernel
theorem dX4_outByDrawn_30 : decode cX4_outByDrawn 30 = .ok (.iadd, 1) := by decide +kernel
theorem dX4_outByDrawn_31 : decode cX4_outByDrawn 31 = .ok (.istore_n 3, 1) := by decide +kernel
theorem dX4_outByDrawn_32 : decode cX4_outByDrawn 32 = .ok (.aload_n 0, 1) := by decide +kernel
theorem dX4_outByDrawn_33 : decode cX4_outByDrawn 33 = .ok (.getfield 49, 3) := by decide +kernel
theorem dX4_outByDrawn_36 : decode cX4_outByDrawn 36 = .ok (.iload_n 3, 1) := by decide +kernel
theorem dX4_outByDrawn_37 : decode cX4_outByDrawn 37 = .ok (.bipush 9, 2) := by decide +kernel
theorem dX4_outByDrawn_39 : decode cX4_outByDrawn 39 = .ok (.iushr, 1) := by decide +kernel
theorem dX4_outByDrawn_40 : decode cX4_outByDrawn 40 = .ok (.bipush 24, 2) := by decide +kernel
theorem dX4_outByDrawn_42 : decode cX4_outByDrawn 42 = .ok (.irem, 1) := by decide +kernel
theorem dX4_outByDrawn_43 : decode cX4_outByDrawn 43 = .ok (.invokevirtual 123, 3) := by decide +kernel
theorem dX4_outByDrawn_46 : decode cX4_outByDrawn 46 = .ok (.pop, 1) := by decide +kernel
theorem dX4_outByDrawn_47 : decode cX4_outByDrawn 47 = .ok (.iinc 4 1, 3) := by decide +kernel
theorem dX4_outByDrawn_50 : decode cX4_outByDrawn 50 = .ok (.goto (-34), 3) := by decide +kernel
theorem dX4_outByDrawn_53 : decode cX4_outByDrawn 53 = .ok (.aload_n 0, 1) := by decide +kernel
theorem dX4_outByDrawn_54 : decode cX4_outByDrawn 54 = .ok (.getfield 49, 3) := by decide +kernel
theorem dX4_outByDrawn_57 : decode cX4_outByDrawn 57 = .ok (.invokevirtual 201, 3) := by decide +kernel
theorem dX4_outByDrawn_60 : decode cX4_outByDrawn 60 = .ok (.ireturn, 1) := by decide +kernel
abbrev cX4_lowest : ByteArray := prog_1_method_59_code
abbrev mX4_lowest : MethodName := { cls := "KinInTheHeap", name := "lowest", desc := "(III)J" }
theorem mwX4_lowest : MWS mX4_lowest (.code mX4_lowest cX4_lowest 5 (some .long)) 3 := ⟨w820, w819, w98, by decide +kernel⟩
theorem dX4_lowest_0 : decode cX4_lowest 0 = .ok (.iload_n 1, 1) := by decide +kernel
theorem dX4_lowest_1 : decode cX4_lowest 1 = .ok (.ifCond .le 12, 3) := by decide +kernel
theorem dX4_lowest_4 : decode cX4_lowest 4 = .ok (.iload_n 2, 1) := by decide +kernel
theorem dX4_lowest_5 : decode cX4_lowest 5 = .ok (.iconst 0, 1) := by decide +kernel
theorem dX4_lowest_6 : decode cX4_lowest 6 = .ok (.iconst 1, 1) := by decide +kernel
theorem dX4_lowest_7 : decode cX4_lowest 7 = .ok (.invokestatic 101, 3) := by decide +kernel
theorem dX4_lowest_10 : decode cX4_lowest 10 = .ok (.ifCond .ne 7, 3) := by decide +kernel
theorem dX4_lowest_13 : decode cX4_lowest 13 = .ok (.ldc2_w 179, 3) := by decide +kernel
theorem dX4_lowest_16 : decode cX4_lowest 16 = .ok (.lreturn, 1) := by decide +kernel
theorem dX4_lowest_17 : decode cX4_lowest 17 = .ok (.iload_n 2, 1) := by decide +kernel
theorem dX4_lowest_18 : decode cX4_lowest 18 = .ok (.ifCond .ne 7, 3) := by decide +kernel
theorem dX4_lowest_21 : decode cX4_lowest 21 = .ok (.iload_n 0, 1) := by decide +kernel
theorem dX4_lowest_22 : decode cX4_lowest 22 = .ok (.goto 4, 3) := by decide +kernel
theorem dX4_lowest_25 : decode cX4_lowest 25 = .ok (.iload_n 1, 1) := by decide +kernel
theorem dX4_lowest_26 : decode cX4_lowest 26 = .ok (.istore_n 3, 1) := by decide +kernel
theorem dX4_lowest_27 : decode cX4_lowest 27 = .ok (.iload_n 1, 1) := by decide +kernel
theorem dX4_lowest_28 : decode cX4_lowest 28 = .ok (.istore 4, 2) := by decide +kernel
theorem dX4_lowest_30 : decode cX4_lowest 30 = .ok (.iload 4, 2) := by decide +kernel
theorem dX4_lowest_32 : decode cX4_lowest 32 = .ok (.iconst 1, 1) := by decide +kernel
theorem dX4_lowest_33 : decode cX4_lowest 33 = .ok (.if_icmp .le 29, 3) := by decide +kernel
theorem dX4_lowest_36 : decode cX4_lowest 36 = .ok (.iload_n 0, 1) := by decide +kernel
theorem dX4_lowest_37 : decode cX4_lowest 37 = .ok (.iload 4, 2) := by decide +kernel
theorem dX4_lowest_39 : decode cX4_lowest 39 = .ok (.irem, 1) := by decide +kernel
theorem dX4_lowest_40 : decode cX4_lowest 40 = .ok (.ifCond .ne 16, 3) := by decide +kernel
theorem dX4_lowest_43 : decode cX4_lowest 43 = .ok (.iload_n 1, 1) := by decide +kernel
theorem dX4_lowest_44 : decode cX4_lowest 44 = .ok (.iload 4, 2) := by decide +kernel
theorem dX4_lowest_46 : decode cX4_lowest 46 = .ok (.irem, 1) := by decide +kernel
theorem dX4_lowest_47 : decode cX4_lowest 47 = .ok (.ifCond .ne 9, 3) := by decide +kernel
theorem dX4_lowest_50 : decode cX4_lowest 50 = .ok (.iload_n 3, 1) := by decide +kernel
theorem dX4_lowest_51 : decode cX4_lowest 51 = .ok (.iload 4, 2) := by decide +kernel
theorem dX4_lowest_53 : decode cX4_lowest 53 = .ok (.idiv, 1) := by decide +kernel
theorem dX4_lowest_54 : decode cX4_lowest 54 = .ok (.i2l, 1) := by decide +kernel
theorem dX4_lowest_55 : decode cX4_lowest 55 = .ok (.lreturn, 1) := by decide +kernel
theorem dX4_lowest_56 : decode cX4_lowest 56 = .ok (.iinc 4 (-1), 3) := by decide +kernel
theorem dX4_lowest_59 : decode cX4_lowest 59 = .ok (.goto (-29), 3) := by decide +kernel
theorem dX4_lowest_62 : decode cX4_lowest 62 = .ok (.iload_n 3, 1) := by decide +kernel
theorem dX4_lowest_63 : decode cX4_lowest 63 = .ok (.i2l, 1) := by decide +kernel
theorem dX4_lowest_64 : decode cX4_lowest 64 = .ok (.lreturn, 1) := by decide +kernel
abbrev cX4_tellingRefused : ByteArray := prog_1_method_60_code
abbrev mX4_tellingRefused : MethodName := { cls := "KinInTheHeap", name := "tellingRefused", desc := "(LKinInTheHeap$Sheet;)I" }
theorem mwX4_tellingRefused : MWS mX4_tellingRefused (.code mX4_tellingRefused cX4_tellingRefused 1 (some .int)) 1 := ⟨w827, w826, w98, by decide +kernel⟩
theorem dX4_tellingRefused_0 : decode cX4_tellingRefused 0 = .ok (.aload_n 0, 1) := by decide +kernel
theorem dX4_tellingRefused_1 : decode cX4_tellingRefused 1 = .ok (.invokevirtual 252, 3) := by decide +kernel
theorem dX4_tellingRefused_4 : decode cX4_tellingRefused 4 = .ok (.ifCond .eq 6, 3) := by decide +kernel
theorem dX4_tellingRefused_7 : decode cX4_tellingRefused 7 = .ok (.bipush (-11), 2) := by decide +kernel
theorem dX4_tellingRefused_9 : decode cX4_tellingRefused 9 = .ok (.ireturn, 1) := by decide +kernel
theorem dX4_tellingRefused_10 : decode cX4_tellingRefused 10 = .ok (.aload_n 0, 1) := by decide +kernel
theorem dX4_tellingRefused_11 : decode cX4_tellingRefused 11 = .ok (.getfield 297, 3) := by decide +kernel
theorem dX4_tellingRefused_14 : decode cX4_tellingRefused 14 = .ok (.bipush 10, 2) := by decide +kernel
theorem dX4_tellingRefused_16 : decode cX4_tellingRefused 16 = .ok (.if_icmp .le 8, 3) := by decide +kernel
theorem dX4_tellingRefused_19 : decode cX4_tellingRefused 19 = .ok (.bipush (-2), 2) := by decide +kernel
theorem dX4_tellingRefused_21 : decode cX4_tellingRefused 21 = .ok (.goto 4, 3) := by decide +kernel
theorem dX4_tellingRefused_24 : decode cX4_tellingRefused 24 = .ok (.iconst 0, 1) := by decide +kernel
theorem dX4_tellingRefused_25 : decode cX4_tellingRefused 25 = .ok (.ireturn, 1) := by decide +kernel
abbrev cX4_toldBack : ByteArray := prog_1_method_61_code
abbrev mX4_toldBack : MethodName := { cls := "KinInTheHeap", name := "toldBack", desc := "(LKinInTheHeap$Sheet;II)I" }
theorem mwX4_toldBack : MWV mX4_toldBack (.code mX4_toldBack cX4_toldBack 4 (some .int)) "KinInTheHeap" 3 := ⟨w831, w830, w38, w98, w98, by decide +kernel⟩
theorem dX4_toldBack_0 : decode cX4_toldBack 0 = .ok (.aload_n 0, 1) := by decide +kernel
theorem dX4_toldBack_1 : decode cX4_toldBack 1 = .ok (.getfield 49, 3) := by decide +kernel
theorem dX4_toldBack_4 : decode cX4_toldBack 4 = .ok (.aload_n 0, 1) := by decide +kernel
theorem dX4_toldBack_5 : decode cX4_toldBack 5 = .ok (.getfield 42, 3) := by decide +kernel
theorem dX4_toldBack_8 : decode cX4_toldBack 8 = .ok (.invokevirtual 140, 3) := by decide +kernel
theorem dX4_toldBack_11 : decode cX4_toldBack 11 = .ok (.iload_n 3, 1) := by decide +kernel
theorem dX4_toldBack_12 : decode cX4_toldBack 12 = .ok (.tableswitch 82 0 5 #[40, 47, 54, 61, 68, 75], 40) := by decide +kernel
theorem dX4_toldBack_52 : decode cX4_toldBack 52 = .ok (.aload_n 0, 1) := by decide +kernel
theorem dX4_toldBack_53 : decode cX4_toldBack 53 = .ok (.aload_n 1, 1) := by decide +kernel
theorem dX4_toldBack_54 : decode cX4_toldBack 54 = .ok (.iload_n 2, 1) := by decide +kernel
theorem dX4_toldBack_55 : decode cX4_toldBack 55 = .ok (.invokevirtual 224, 3) := by decide +kernel
theorem dX4_toldBack_58 : decode cX4_toldBack 58 = .ok (.ireturn, 1) := by decide +kernel
theorem dX4_toldBack_59 : decode cX4_toldBack 59 = .ok (.aload_n 0, 1) := by decide +kernel
theorem dX4_toldBack_60 : decode cX4_toldBack 60 = .ok (.aload_n 1, 1) := by decide +kernel
theorem dX4_toldBack_61 : decode cX4_toldBack 61 = .ok (.iload_n 2, 1) := by decide +kernel
theorem dX4_toldBack_62 : decode cX4_toldBack 62 = .ok (.invokevirtual 309, 3) := by decide +kernel
theorem dX4_toldBack_65 : decode cX4_toldBack 65 = .ok (.ireturn, 1) := by decide +kernel
theorem dX4_toldBack_66 : decode cX4_toldBack 66 = .ok (.aload_n 0, 1) := by decide +kernel
theorem dX4_toldBack_67 : decode cX4_toldBack 67 = .ok (.aload_n 1, 1) := by decide +kernel
theorem dX4_toldBack_68 : decode cX4_toldBack 68 = .ok (.iload_n 2, 1) := by decide +kernel
theorem dX4_toldBack_69 : decode cX4_toldBack 69 = .ok (.invokevirtual 312, 3) := by decide +kernel
theorem dX4_toldBack_72 : decode cX4_toldBack 72 = .ok (.ireturn, 1) := by decide +kernel
theorem dX4_toldBack_73 : decode cX4_toldBack 73 = .ok (.aload_n 0, 1) := by decide +kernel
theorem dX4_toldBack_74 : decode cX4_toldBack 74 = .ok (.aload_n 1, 1) := by decide +kernel
theorem dX4_toldBack_75 : decode cX4_toldBack 75 = .ok (.iload_n 2, 1) := by decide +kernel
theorem dX4_toldBack_76 : decode cX4_toldBack 76 = .ok (.invokevirtual 315, 3) := by decide +kernel
theorem dX4_toldBack_79 : decode cX4_toldBack 79 = .ok (.ireturn, 1) := by decide +kernel
theorem dX4_toldBack_80 : decode cX4_toldBack 80 = .ok (.aload_n 0, 1) := by decide +kernel
theorem dX4_toldBack_81 : decode cX4_toldBack 81 = .ok (.aload_n 1, 1) := by decide +kernel
theorem dX4_toldBack_82 : decode cX4_toldBack 82 = .ok (.iload_n 2, 1) := by decide +kernel
theorem dX4_toldBack_83 : decode cX4_toldBack 83 = .ok (.invokevirtual 318, 3) := by decide +kernel
theorem dX4_toldBack_86 : decode cX4_toldBack 86 = .ok (.ireturn, 1) := by decide +kernel
theorem dX4_toldBack_87 : decode cX4_toldBack 87 = .ok (.aload_n 0, 1) := by decide +kernel
theorem dX4_toldBack_88 : decode cX4_toldBack 88 = .ok (.aload_n 1, 1) := by decide +kernel
theorem dX4_toldBack_89 : decode cX4_toldBack 89 = .ok (.iload_n 2, 1) := by decide +kernel
theorem dX4_toldBack_90 : decode cX4_toldBack 90 = .ok (.invokevirtual 321, 3) := by decide +kernel
theorem dX4_toldBack_93 : decode cX4_toldBack 93 = .ok (.ireturn, 1) := by decide +kernel
theorem dX4_toldBack_94 : decode cX4_toldBack 94 = .ok (.aload_n 0, 1) := by decide +kernel
theorem dX4_toldBack_95 : decode cX4_toldBack 95 = .ok (.aload_n 1, 1) := by decide +kernel
theorem dX4_toldBack_96 : decode cX4_toldBack 96 = .ok (.invokevirtual 324, 3) := by decide +kernel
theorem dX4_toldBack_99 : decode cX4_toldBack 99 = .ok (.ireturn, 1) := by decide +kernel
abbrev cX4_firstOtherwise : ByteArray := prog_1_method_62_code
abbrev mX4_firstOtherwise : MethodName := { cls := "KinInTheHeap", name := "firstOtherwise", desc := "(LKinInTheHeap$Sheet;I)I" }
theorem mwX4_firstOtherwise : MWV mX4_firstOtherwise (.code mX4_firstOtherwise cX4_firstOtherwise 4 (some .int)) "KinInTheHeap" 2 := ⟨w835, w834, w39, w98, w98, by decide +kernel⟩
theorem dX4_firstOtherwise_0 : decode cX4_firstOtherwise 0 = .ok (.iconst 0, 1) := by decide +kernel
theorem dX4_firstOtherwise_1 : decode cX4_firstOtherwise 1 = .ok (.istore_n 3, 1) := by decide +kernel
theorem dX4_firstOtherwise_2 : decode cX4_firstOtherwise 2 = .ok (.iload_n 3, 1) := by decide +kernel
theorem dX4_firstOtherwise_3 : decode cX4_firstOtherwise 3 = .ok (.aload_n 1, 1) := by decide +kernel
theorem dX4_firstOtherwise_4 : decode cX4_firstOtherwise 4 = .ok (.getfield 297, 3) := by decide +kernel
theorem dX4_firstOtherwise_7 : decode cX4_firstOtherwise 7 = .ok (.if_icmp .ge 36, 3) := by decide +kernel
theorem dX4_firstOtherwise_10 : decode cX4_firstOtherwise 10 = .ok (.aload_n 0, 1) := by decide +kernel
theorem dX4_firstOtherwise_11 : decode cX4_firstOtherwise 11 = .ok (.getfield 49, 3) := by decide +kernel
theorem dX4_firstOtherwise_14 : decode cX4_firstOtherwise 14 = .ok (.iload_n 3, 1) := by decide +kernel
theorem dX4_firstOtherwise_15 : decode cX4_firstOtherwise 15 = .ok (.putfield 85, 3) := by decide +kernel
theorem dX4_firstOtherwise_18 : decode cX4_firstOtherwise 18 = .ok (.aload_n 0, 1) := by decide +kernel
theorem dX4_firstOtherwise_19 : decode cX4_firstOtherwise 19 = .ok (.getfield 49, 3) := by decide +kernel
theorem dX4_firstOtherwise_22 : decode cX4_firstOtherwise 22 = .ok (.iload_n 2, 1) := by decide +kernel
theorem dX4_firstOtherwise_23 : decode cX4_firstOtherwise 23 = .ok (.invokevirtual 232, 3) := by decide +kernel
theorem dX4_firstOtherwise_26 : decode cX4_firstOtherwise 26 = .ok (.aload_n 1, 1) := by decide +kernel
theorem dX4_firstOtherwise_27 : decode cX4_firstOtherwise 27 = .ok (.getfield 262, 3) := by decide +kernel
theorem dX4_firstOtherwise_30 : decode cX4_firstOtherwise 30 = .ok (.iload_n 3, 1) := by decide +kernel
theorem dX4_firstOtherwise_31 : decode cX4_firstOtherwise 31 = .ok (.iaload, 1) := by decide +kernel
theorem dX4_firstOtherwise_32 : decode cX4_firstOtherwise 32 = .ok (.if_icmp .eq 5, 3) := by decide +kernel
theorem dX4_firstOtherwise_35 : decode cX4_firstOtherwise 35 = .ok (.iload_n 3, 1) := by decide +kernel
theorem dX4_firstOtherwise_36 : decode cX4_firstOtherwise 36 = .ok (.ireturn, 1) := by decide +kernel
theorem dX4_firstOtherwise_37 : decode cX4_firstOtherwise 37 = .ok (.iinc 3 1, 3) := by decide +kernel
theorem dX4_firstOtherwise_40 : decode cX4_firstOtherwise 40 = .ok (.goto (-38), 3) := by decide +kernel
theorem dX4_firstOtherwise_43 : decode cX4_firstOtherwise 43 = .ok (.iconst (-1), 1) := by decide +kernel
theorem dX4_firstOtherwise_44 : decode cX4_firstOtherwise 44 = .ok (.ireturn, 1) := by decide +kernel
abbrev cX4_kindsTold : ByteArray := prog_1_method_63_code
abbrev mX4_kindsTold : MethodName := { cls := "KinInTheHeap", name := "kindsTold", desc := "(LKinInTheHeap$Sheet;I)I" }
theorem mwX4_kindsTold : MWV mX4_kindsTold (.code mX4_kindsTold cX4_kindsTold 5 (some .int)) "KinInTheHeap" 2 := ⟨w839, w838, w40, w98, w98, by decide +kernel⟩
theorem dX4_kindsTold_0 : decode cX4_kindsTold 0 = .ok (.iconst 0, 1) := by decide +kernel
theorem dX4_kindsTold_1 : decode cX4_kindsTold 1 = .ok (.istore_n 3, 1) := by decide +kernel
theorem dX4_kindsTold_2 : decode cX4_kindsTold 2 = .ok (.iconst 0, 1) := by decide +kernel
theorem dX4_kindsTold_3 : decode cX4_kindsTold 3 = .ok (.istore 4, 2) := by decide +kernel
theorem dX4_kindsTold_5 : decode cX4_kindsTold 5 = .ok (.iload 4, 2) := by decide +kernel
theorem dX4_kindsTold_7 : decode cX4_kindsTold 7 = .ok (.bipush 6, 2) := by decide +kernel
theorem dX4_kindsTold_9 : decode cX4_kindsTold 9 = .ok (.if_icmp .ge 37, 3) := by decide +kernel
theorem dX4_kindsTold_12 : decode cX4_kindsTold 12 = .ok (.aload_n 0, 1) := by decide +kernel
theorem dX4_kindsTold_13 : decode cX4_kindsTold 13 = .ok (.getfield 49, 3) := by decide +kernel
theorem dX4_kindsTold_16 : decode cX4_kindsTold 16 = .ok (.getfield 274, 3) := by decide +kernel
theorem dX4_kindsTold_19 : decode cX4_kindsTold 19 = .ok (.iload_n 2, 1) := by decide +kernel
theorem dX4_kindsTold_20 : decode cX4_kindsTold 20 = .ok (.iload 4, 2) := by decide +kernel
theorem dX4_kindsTold_22 : decode cX4_kindsTold 22 = .ok (.iastore, 1) := by decide +kernel
theorem dX4_kindsTold_23 : decode cX4_kindsTold 23 = .ok (.aload_n 0, 1) := by decide +kernel
theorem dX4_kindsTold_24 : decode cX4_kindsTold 24 = .ok (.aload_n 1, 1) := by decide +kernel
theorem dX4_kindsTold_25 : decode cX4_kindsTold 25 = .ok (.iload_n 2, 1) := by decide +kernel
theorem dX4_kindsTold_26 : decode cX4_kindsTold 26 = .ok (.invokevirtual 224, 3) := by decide +kernel
theorem dX4_kindsTold_29 : decode cX4_kindsTold 29 = .ok (.iconst (-1), 1) := by decide +kernel
theorem dX4_kindsTold_30 : decode cX4_kindsTold 30 = .ok (.if_icmp .ne 10, 3) := by decide +kernel
theorem dX4_kindsTold_33 : decode cX4_kindsTold 33 = .ok (.iload_n 3, 1) := by decide +kernel
theorem dX4_kindsTold_34 : decode cX4_kindsTold 34 = .ok (.iconst 1, 1) := by decide +kernel
theorem dX4_kindsTold_35 : decode cX4_kindsTold 35 = .ok (.iload 4, 2) := by decide +kernel
theorem dX4_kindsTold_37 : decode cX4_kindsTold 37 = .ok (.ishl, 1) := by decide +kernel
theorem dX4_kindsTold_38 : decode cX4_kindsTold 38 = .ok (.ior, 1) := by decide +kernel
theorem dX4_kindsTold_39 : decode cX4_kindsTold 39 = .ok (.istore_n 3, 1) := by decide +kernel
theorem dX4_kindsTold_40 : decode cX4_kindsTold 40 = .ok (.iinc 4 1, 3) := by decide +kernel
theorem dX4_kindsTold_43 : decode cX4_kindsTold 43 = .ok (.goto (-38), 3) := by decide +kernel
theorem dX4_kindsTold_46 : decode cX4_kindsTold 46 = .ok (.iload_n 3, 1) := by decide +kernel
theorem dX4_kindsTold_47 : decode cX4_kindsTold 47 = .ok (.ireturn, 1) := by decide +kernel
abbrev cX4_numbersTold : ByteArray := prog_1_method_64_code
abbrev mX4_numbersTold : MethodName := { cls := "KinInTheHeap", name := "numbersTold", desc := "(LKinInTheHeap$Sheet;I)I" }
theorem mwX4_numbersTold : MWV mX4_numbersTold (.code mX4_numbersTold cX4_numbersTold 5 (some .int)) "KinInTheHeap" 2 := ⟨w843, w842, w41, w98, w98, by decide +kernel⟩
theorem dX4_numbersTold_0 : decode cX4_numbersTold 0 = .ok (.iconst 0, 1) := by decide +kernel
theorem dX4_numbersTold_1 : decode cX4_numbersTold 1 = .ok (.istore_n 3, 1) := by decide +kernel
theorem dX4_numbersTold_2 : decode cX4_numbersTold 2 = .ok (.iconst 0, 1) := by decide +kernel
theorem dX4_numbersTold_3 : decode cX4_numbersTold 3 = .ok (.istore 4, 2) := by decide +kernel
theorem dX4_numbersTold_5 : decode cX4_numbersTold 5 = .ok (.iload 4, 2) := by decide +kernel
theorem dX4_numbersTold_7 : decode cX4_numbersTold 7 = .ok (.bipush 10, 2) := by decide +kernel
theorem dX4_numbersTold_9 : decode cX4_numbersTold 9 = .ok (.if_icmp .ge 37, 3) := by decide +kernel
theorem dX4_numbersTold_12 : decode cX4_numbersTold 12 = .ok (.aload_n 0, 1) := by decide +kernel
theorem dX4_numbersTold_13 : decode cX4_numbersTold 13 = .ok (.getfield 49, 3) := by decide +kernel
theorem dX4_numbersTold_16 : decode cX4_numbersTold 16 = .ok (.getfield 280, 3) := by decide +kernel
theorem dX4_numbersTold_19 : decode cX4_numbersTold 19 = .ok (.iload_n 2, 1) := by decide +kernel
theorem dX4_numbersTold_20 : decode cX4_numbersTold 20 = .ok (.iload 4, 2) := by decide +kernel
theorem dX4_numbersTold_22 : decode cX4_numbersTold 22 = .ok (.iastore, 1) := by decide +kernel
theorem dX4_numbersTold_23 : decode cX4_numbersTold 23 = .ok (.aload_n 0, 1) := by decide +kernel
theorem dX4_numbersTold_24 : decode cX4_numbersTold 24 = .ok (.aload_n 1, 1) := by decide +kernel
theorem dX4_numbersTold_25 : decode cX4_numbersTold 25 = .ok (.iload_n 2, 1) := by decide +kernel
theorem dX4_numbersTold_26 : decode cX4_numbersTold 26 = .ok (.invokevirtual 224, 3) := by decide +kernel
theorem dX4_numbersTold_29 : decode cX4_numbersTold 29 = .ok (.iconst (-1), 1) := by decide +kernel
theorem dX4_numbersTold_30 : decode cX4_numbersTold 30 = .ok (.if_icmp .ne 10, 3) := by decide +kernel
theorem dX4_numbersTold_33 : decode cX4_numbersTold 33 = .ok (.iload_n 3, 1) := by decide +kernel
theorem dX4_numbersTold_34 : decode cX4_numbersTold 34 = .ok (.iconst 1, 1) := by decide +kernel
theorem dX4_numbersTold_35 : decode cX4_numbersTold 35 = .ok (.iload 4, 2) := by decide +kernel
theorem dX4_numbersTold_37 : decode cX4_numbersTold 37 = .ok (.ishl, 1) := by decide +kernel
theorem dX4_numbersTold_38 : decode cX4_numbersTold 38 = .ok (.ior, 1) := by decide +kernel
theorem dX4_numbersTold_39 : decode cX4_numbersTold 39 = .ok (.istore_n 3, 1) := by decide +kernel
theorem dX4_numbersTold_40 : decode cX4_numbersTold 40 = .ok (.iinc 4 1, 3) := by decide +kernel
theorem dX4_numbersTold_43 : decode cX4_numbersTold 43 = .ok (.goto (-38), 3) := by decide +kernel
theorem dX4_numbersTold_46 : decode cX4_numbersTold 46 = .ok (.iload_n 3, 1) := by decide +kernel
theorem dX4_numbersTold_47 : decode cX4_numbersTold 47 = .ok (.ireturn, 1) := by decide +kernel
abbrev cX4_weeksTold : ByteArray := prog_1_method_65_code
abbrev mX4_weeksTold : MethodName := { cls := "KinInTheHeap", name := "weeksTold", desc := "(LKinInTheHeap$Sheet;I)I" }
theorem mwX4_weeksTold : MWV mX4_weeksTold (.code mX4_weeksTold cX4_weeksTold 5 (some .int)) "KinInTheHeap" 2 := ⟨w847, w846, w42, w98, w98, by decide +kernel⟩
theorem dX4_weeksTold_0 : decode cX4_weeksTold 0 = .ok (.iconst 0, 1) := by decide +kernel
theorem dX4_weeksTold_1 : decode cX4_weeksTold 1 = .ok (.istore_n 3, 1) := by decide +kernel
theorem dX4_weeksTold_2 : decode cX4_weeksTold 2 = .ok (.iconst 0, 1) := by decide +kernel
theorem dX4_weeksTold_3 : decode cX4_weeksTold 3 = .ok (.istore 4, 2) := by decide +kernel
theorem dX4_weeksTold_5 : decode cX4_weeksTold 5 = .ok (.iload 4, 2) := by decide +kernel
theorem dX4_weeksTold_7 : decode cX4_weeksTold 7 = .ok (.bipush 100, 2) := by decide +kernel
theorem dX4_weeksTold_9 : decode cX4_weeksTold 9 = .ok (.if_icmp .ge 31, 3) := by decide +kernel
theorem dX4_weeksTold_12 : decode cX4_weeksTold 12 = .ok (.aload_n 0, 1) := by decide +kernel
theorem dX4_weeksTold_13 : decode cX4_weeksTold 13 = .ok (.getfield 49, 3) := by decide +kernel
theorem dX4_weeksTold_16 : decode cX4_weeksTold 16 = .ok (.iload 4, 2) := by decide +kernel
theorem dX4_weeksTold_18 : decode cX4_weeksTold 18 = .ok (.putfield 82, 3) := by decide +kernel
theorem dX4_weeksTold_21 : decode cX4_weeksTold 21 = .ok (.aload_n 0, 1) := by decide +kernel
theorem dX4_weeksTold_22 : decode cX4_weeksTold 22 = .ok (.aload_n 1, 1) := by decide +kernel
theorem dX4_weeksTold_23 : decode cX4_weeksTold 23 = .ok (.iload_n 2, 1) := by decide +kernel
theorem dX4_weeksTold_24 : decode cX4_weeksTold 24 = .ok (.invokevirtual 224, 3) := by decide +kernel
theorem dX4_weeksTold_27 : decode cX4_weeksTold 27 = .ok (.iconst (-1), 1) := by decide +kernel
theorem dX4_weeksTold_28 : decode cX4_weeksTold 28 = .ok (.if_icmp .ne 6, 3) := by decide +kernel
theorem dX4_weeksTold_31 : decode cX4_weeksTold 31 = .ok (.iinc 3 1, 3) := by decide +kernel
theorem dX4_weeksTold_34 : decode cX4_weeksTold 34 = .ok (.iinc 4 1, 3) := by decide +kernel
theorem dX4_weeksTold_37 : decode cX4_weeksTold 37 = .ok (.goto (-32), 3) := by decide +kernel
theorem dX4_weeksTold_40 : decode cX4_weeksTold 40 = .ok (.iload_n 3, 1) := by decide +kernel
theorem dX4_weeksTold_41 : decode cX4_weeksTold 41 = .ok (.ireturn, 1) := by decide +kernel
abbrev cX4_leastWeekTold : ByteArray := prog_1_method_66_code
abbrev mX4_leastWeekTold : MethodName := { cls := "KinInTheHeap", name := "leastWeekTold", desc := "(LKinInTheHeap$Sheet;I)I" }
theorem mwX4_leastWeekTold : MWV mX4_leastWeekTold (.code mX4_leastWeekTold cX4_leastWeekTold 4 (some .int)) "KinInTheHeap" 2 := ⟨w851, w850, w43, w98, w98, by decide +kernel⟩
theorem dX4_leastWeekTold_0 : decode cX4_leastWeekTold 0 = .ok (.iconst 0, 1) := by decide +kernel
theorem dX4_leastWeekTold_1 : decode cX4_leastWeekTold 1 = .ok (.istore_n 3, 1) := by decide +kernel
theorem dX4_leastWeekTold_2 : decode cX4_leastWeekTold 2 = .ok (.iload_n 3, 1) := by decide +kernel
theorem dX4_leastWeekTold_3 : decode cX4_leastWeekTold 3 = .ok (.bipush 100, 2) := by decide +kernel
theorem dX4_leastWeekTold_5 : decode cX4_leastWeekTold 5 = .ok (.if_icmp .ge 29, 3) := by decide +kernel
theorem dX4_leastWeekTold_8 : decode cX4_leastWeekTold 8 = .ok (.aload_n 0, 1) := by decide +kernel
theorem dX4_leastWeekTold_9 : decode cX4_leastWeekTold 9 = .ok (.getfield 49, 3) := by decide +kernel
theorem dX4_leastWeekTold_12 : decode cX4_leastWeekTold 12 = .ok (.iload_n 3, 1) := by decide +kernel
theorem dX4_leastWeekTold_13 : decode cX4_leastWeekTold 13 = .ok (.putfield 82, 3) := by decide +kernel
theorem dX4_leastWeekTold_16 : decode cX4_leastWeekTold 16 = .ok (.aload_n 0, 1) := by decide +kernel
theorem dX4_leastWeekTold_17 : decode cX4_leastWeekTold 17 = .ok (.aload_n 1, 1) := by decide +kernel
theorem dX4_leastWeekTold_18 : decode cX4_leastWeekTold 18 = .ok (.iload_n 2, 1) := by decide +kernel
theorem dX4_leastWeekTold_19 : decode cX4_leastWeekTold 19 = .ok (.invokevirtual 224, 3) := by decide +kernel
theorem dX4_leastWeekTold_22 : decode cX4_leastWeekTold 22 = .ok (.iconst (-1), 1) := by decide +kernel
theorem dX4_leastWeekTold_23 : decode cX4_leastWeekTold 23 = .ok (.if_icmp .ne 5, 3) := by decide +kernel
theorem dX4_leastWeekTold_26 : decode cX4_leastWeekTold 26 = .ok (.iload_n 3, 1) := by decide +kernel
theorem dX4_leastWeekTold_27 : decode cX4_leastWeekTold 27 = .ok (.ireturn, 1) := by decide +kernel
theorem dX4_leastWeekTold_28 : decode cX4_leastWeekTold 28 = .ok (.iinc 3 1, 3) := by decide +kernel
theorem dX4_leastWeekTold_31 : decode cX4_leastWeekTold 31 = .ok (.goto (-29), 3) := by decide +kernel
theorem dX4_leastWeekTold_34 : decode cX4_leastWeekTold 34 = .ok (.iconst (-1), 1) := by decide +kernel
theorem dX4_leastWeekTold_35 : decode cX4_leastWeekTold 35 = .ok (.ireturn, 1) := by decide +kernel
abbrev cX4_textsTold : ByteArray := prog_1_method_67_code
abbrev mX4_textsTold : MethodName := { cls := "KinInTheHeap", name := "textsTold", desc := "(LKinInTheHeap$Sheet;I)I" }
theorem mwX4_textsTold : MWV mX4_textsTold (.code mX4_textsTold cX4_textsTold 5 (some .int)) "KinInTheHeap" 2 := ⟨w855, w854, w44, w98, w98, by decide +kernel⟩
theorem dX4_textsTold_0 : decode cX4_textsTold 0 = .ok (.iconst 0, 1) := by decide +kernel
theorem dX4_textsTold_1 : decode cX4_textsTold 1 = .ok (.istore_n 3, 1) := by decide +kernel
theorem dX4_textsTold_2 : decode cX4_textsTold 2 = .ok (.iconst 0, 1) := by decide +kernel
theorem dX4_textsTold_3 : decode cX4_textsTold 3 = .ok (.istore 4, 2) := by decide +kernel
theorem dX4_textsTold_5 : decode cX4_textsTold 5 = .ok (.iload 4, 2) := by decide +kernel
theorem dX4_textsTold_7 : decode cX4_textsTold 7 = .ok (.aload_n 0, 1) := by decide +kernel
theorem dX4_textsTold_8 : decode cX4_textsTold 8 = .ok (.getfield 33, 3) := by decide +kernel
theorem dX4_textsTold_11 : decode cX4_textsTold 11 = .ok (.if_icmp .ge 35, 3) := by decide +kernel
theorem dX4_textsTold_14 : decode cX4_textsTold 14 = .ok (.aload_n 0, 1) := by decide +kernel
theorem dX4_textsTold_15 : decode cX4_textsTold 15 = .ok (.getfield 49, 3) := by decide +kernel
theorem dX4_textsTold_18 : decode cX4_textsTold 18 = .ok (.iload 4, 2) := by decide +kernel
theorem dX4_textsTold_20 : decode cX4_textsTold 20 = .ok (.putfield 117, 3) := by decide +kernel
theorem dX4_textsTold_23 : decode cX4_textsTold 23 = .ok (.aload_n 0, 1) := by decide +kernel
theorem dX4_textsTold_24 : decode cX4_textsTold 24 = .ok (.aload_n 1, 1) := by decide +kernel
theorem dX4_textsTold_25 : decode cX4_textsTold 25 = .ok (.iload_n 2, 1) := by decide +kernel
theorem dX4_textsTold_26 : decode cX4_textsTold 26 = .ok (.invokevirtual 224, 3) := by decide +kernel
theorem dX4_textsTold_29 : decode cX4_textsTold 29 = .ok (.iconst (-1), 1) := by decide +kernel
theorem dX4_textsTold_30 : decode cX4_textsTold 30 = .ok (.if_icmp .ne 10, 3) := by decide +kernel
theorem dX4_textsTold_33 : decode cX4_textsTold 33 = .ok (.iload_n 3, 1) := by decide +kernel
theorem dX4_textsTold_34 : decode cX4_textsTold 34 = .ok (.iconst 1, 1) := by decide +kernel
theorem dX4_textsTold_35 : decode cX4_textsTold 35 = .ok (.iload 4, 2) := by decide +kernel
theorem dX4_textsTold_37 : decode cX4_textsTold 37 = .ok (.ishl, 1) := by decide +kernel
theorem dX4_textsTold_38 : decode cX4_textsTold 38 = .ok (.ior, 1) := by decide +kernel
theorem dX4_textsTold_39 : decode cX4_textsTold 39 = .ok (.istore_n 3, 1) := by decide +kernel
theorem dX4_textsTold_40 : decode cX4_textsTold 40 = .ok (.iinc 4 1, 3) := by decide +kernel
theorem dX4_textsTold_43 : decode cX4_textsTold 43 = .ok (.goto (-38), 3) := by decide +kernel
theorem dX4_textsTold_46 : decode cX4_textsTold 46 = .ok (.iload_n 3, 1) := by decide +kernel
theorem dX4_textsTold_47 : decode cX4_textsTold 47 = .ok (.ireturn, 1) := by decide +kernel
abbrev cX4_dustTold : ByteArray := prog_1_method_68_code
abbrev mX4_dustTold : MethodName := { cls := "KinInTheHeap", name := "dustTold", desc := "(LKinInTheHeap$Sheet;)I" }
theorem mwX4_dustTold : MWV mX4_dustTold (.code mX4_dustTold cX4_dustTold 4 (some .int)) "KinInTheHeap" 1 := ⟨w859, w858, w45, w98, w98, by decide +kernel⟩
theorem dX4_dustTold_0 : decode cX4_dustTold 0 = .ok (.iconst 0, 1) := by decide +kernel
theorem dX4_dustTold_1 : decode cX4_dustTold 1 = .ok (.istore_n 2, 1) := by decide +kernel
theorem dX4_dustTold_2 : decode cX4_dustTold 2 = .ok (.iconst 0, 1) := by decide +kernel
theorem dX4_dustTold_3 : decode cX4_dustTold 3 = .ok (.istore_n 3, 1) := by decide +kernel
theorem dX4_dustTold_4 : decode cX4_dustTold 4 = .ok (.iload_n 3, 1) := by decide +kernel
theorem dX4_dustTold_5 : decode cX4_dustTold 5 = .ok (.aload_n 0, 1) := by decide +kernel
theorem dX4_dustTold_6 : decode cX4_dustTold 6 = .ok (.getfield 42, 3) := by decide +kernel
theorem dX4_dustTold_9 : decode cX4_dustTold 9 = .ok (.getfield 79, 3) := by decide +kernel
theorem dX4_dustTold_12 : decode cX4_dustTold 12 = .ok (.if_icmp .ge 36, 3) := by decide +kernel
theorem dX4_dustTold_15 : decode cX4_dustTold 15 = .ok (.aload_n 0, 1) := by decide +kernel
theorem dX4_dustTold_16 : decode cX4_dustTold 16 = .ok (.getfield 42, 3) := by decide +kernel
theorem dX4_dustTold_19 : decode cX4_dustTold 19 = .ok (.iload_n 3, 1) := by decide +kernel
theorem dX4_dustTold_20 : decode cX4_dustTold 20 = .ok (.invokevirtual 210, 3) := by decide +kernel
theorem dX4_dustTold_23 : decode cX4_dustTold 23 = .ok (.ifCond .eq 19, 3) := by decide +kernel
theorem dX4_dustTold_26 : decode cX4_dustTold 26 = .ok (.aload_n 0, 1) := by decide +kernel
theorem dX4_dustTold_27 : decode cX4_dustTold 27 = .ok (.aload_n 1, 1) := by decide +kernel
theorem dX4_dustTold_28 : decode cX4_dustTold 28 = .ok (.iload_n 3, 1) := by decide +kernel
theorem dX4_dustTold_29 : decode cX4_dustTold 29 = .ok (.invokevirtual 224, 3) := by decide +kernel
theorem dX4_dustTold_32 : decode cX4_dustTold 32 = .ok (.iconst (-1), 1) := by decide +kernel
theorem dX4_dustTold_33 : decode cX4_dustTold 33 = .ok (.if_icmp .ne 9, 3) := by decide +kernel
theorem dX4_dustTold_36 : decode cX4_dustTold 36 = .ok (.iload_n 2, 1) := by decide +kernel
theorem dX4_dustTold_37 : decode cX4_dustTold 37 = .ok (.iconst 1, 1) := by decide +kernel
theorem dX4_dustTold_38 : decode cX4_dustTold 38 = .ok (.iload_n 3, 1) := by decide +kernel
theorem dX4_dustTold_39 : decode cX4_dustTold 39 = .ok (.ishl, 1) := by decide +kernel
theorem dX4_dustTold_40 : decode cX4_dustTold 40 = .ok (.ior, 1) := by decide +kernel
theorem dX4_dustTold_41 : decode cX4_dustTold 41 = .ok (.istore_n 2, 1) := by decide +kernel
theorem dX4_dustTold_42 : decode cX4_dustTold 42 = .ok (.iinc 3 1, 3) := by decide +kernel
theorem dX4_dustTold_45 : decode cX4_dustTold 45 = .ok (.goto (-41), 3) := by decide +kernel
theorem dX4_dustTold_48 : decode cX4_dustTold 48 = .ok (.iload_n 2, 1) := by decide +kernel
theorem dX4_dustTold_49 : decode cX4_dustTold 49 = .ok (.ireturn, 1) := by decide +kernel
abbrev cX4_heapOf : ByteArray := prog_1_method_69_code
abbrev mX4_heapOf : MethodName := { cls := "KinInTheHeap", name := "heapOf", desc := "(LKinInTheHeap$Sheet;II)I" }
theorem mwX4_heapOf : MWV mX4_heapOf (.code mX4_heapOf cX4_heapOf 7 (some .int)) "KinInTheHeap" 3 := ⟨w928, w927, w47, w98, w98, by decide +kernel⟩
theorem dX4_heapOf_0 : decode cX4_heapOf 0 = .ok (.iconst 0, 1) := by decide +kernel
theorem dX4_heapOf_1 : decode cX4_heapOf 1 = .ok (.istore 4, 2) := by decide +kernel
theorem dX4_heapOf_3 : decode cX4_heapOf 3 = .ok (.iload_n 2, 1) := by decide +kernel
theorem dX4_heapOf_4 : decode cX4_heapOf 4 = .ok (.istore 5, 2) := by decide +kernel
theorem dX4_heapOf_6 : decode cX4_heapOf 6 = .ok (.iconst 0, 1) := by decide +kernel
theorem dX4_heapOf_7 : decode cX4_heapOf 7 = .ok (.istore 6, 2) := by decide +kernel
theorem dX4_heapOf_9 : decode cX4_heapOf 9 = .ok (.iload 6, 2) := by decide +kernel
theorem dX4_heapOf_11 : decode cX4_heapOf 11 = .ok (.iload_n 3, 1) := by decide +kernel
theorem dX4_heapOf_12 : decode cX4_heapOf 12 = .ok (.if_icmp .ge 60, 3) := by decide +kernel
theorem dX4_heapOf_15 : decode cX4_heapOf 15 = .ok (.aload_n 1, 1) := by decide +kernel
theorem dX4_heapOf_16 : decode cX4_heapOf 16 = .ok (.iload 5, 2) := by decide +kernel
theorem dX4_heapOf_18 : decode cX4_heapOf 18 = .ok (.iconst 3, 1) := by decide +kernel
theorem dX4_heapOf_19 : decode cX4_heapOf 19 = .ok (.invokevirtual 259, 3) := by decide +kernel
theorem dX4_heapOf_22 : decode cX4_heapOf 22 = .ok (.ifCond .ne 6, 3) := by decide +kernel
theorem dX4_heapOf_25 : decode cX4_heapOf 25 = .ok (.bipush (-12), 2) := by decide +kernel
theorem dX4_heapOf_27 : decode cX4_heapOf 27 = .ok (.ireturn, 1) := by decide +kernel
theorem dX4_heapOf_28 : decode cX4_heapOf 28 = .ok (.aload_n 0, 1) := by decide +kernel
theorem dX4_heapOf_29 : decode cX4_heapOf 29 = .ok (.aload_n 1, 1) := by decide +kernel
theorem dX4_heapOf_30 : decode cX4_heapOf 30 = .ok (.getfield 262, 3) := by decide +kernel
theorem dX4_heapOf_33 : decode cX4_heapOf 33 = .ok (.iload 5, 2) := by decide +kernel
theorem dX4_heapOf_35 : decode cX4_heapOf 35 = .ok (.iaload, 1) := by decide +kernel
theorem dX4_heapOf_36 : decode cX4_heapOf 36 = .ok (.aload_n 1, 1) := by decide +kernel
theorem dX4_heapOf_37 : decode cX4_heapOf 37 = .ok (.getfield 262, 3) := by decide +kernel
theorem dX4_heapOf_40 : decode cX4_heapOf 40 = .ok (.iload 5, 2) := by decide +kernel
theorem dX4_heapOf_42 : decode cX4_heapOf 42 = .ok (.iconst 1, 1) := by decide +kernel
theorem dX4_heapOf_43 : decode cX4_heapOf 43 = .ok (.iadd, 1) := by decide +kernel
theorem dX4_heapOf_44 : decode cX4_heapOf 44 = .ok (.iaload, 1) := by decide +kernel
theorem dX4_heapOf_45 : decode cX4_heapOf 45 = .ok (.aload_n 1, 1) := by decide +kernel
theorem dX4_heapOf_46 : decode cX4_heapOf 46 = .ok (.getfield 262, 3) := by decide +kernel
theorem dX4_heapOf_49 : decode cX4_heapOf 49 = .ok (.iload 5, 2) := by decide +kernel
theorem dX4_heapOf_51 : decode cX4_heapOf 51 = .ok (.iconst 2, 1) := by decide +kernel
theorem dX4_heapOf_52 : decode cX4_heapOf 52 = .ok (.iadd, 1) := by decide +kernel
theorem dX4_heapOf_53 : decode cX4_heapOf 53 = .ok (.iaload, 1) := by decide +kernel
theorem dX4_heapOf_54 : decode cX4_heapOf 54 = .ok (.invokevirtual 327, 3) := by decide +kernel
theorem dX4_heapOf_57 : decode cX4_heapOf 57 = .ok (.ifCond .lt 6, 3) := by decide +kernel
theorem dX4_heapOf_60 : decode cX4_heapOf 60 = .ok (.iinc 4 1, 3) := by decide +kernel
theorem dX4_heapOf_63 : decode cX4_heapOf 63 = .ok (.iinc 5 3, 3) := by decide +kernel
theorem dX4_heapOf_66 : decode cX4_heapOf 66 = .ok (.iinc 6 1, 3) := by decide +kernel
theorem dX4_heapOf_69 : decode cX4_heapOf 69 = .ok (.goto (-60), 3) := by decide +kernel
theorem dX4_heapOf_72 : decode cX4_heapOf 72 = .ok (.iload 4, 2) := by decide +kernel
theorem dX4_heapOf_74 : decode cX4_heapOf 74 = .ok (.ireturn, 1) := by decide +kernel
abbrev cX4_isUnder : ByteArray := prog_1_method_70_code
abbrev mX4_isUnder : MethodName := { cls := "KinInTheHeap", name := "isUnder", desc := "(II)Z" }
theorem mwX4_isUnder : MWS mX4_isUnder (.code mX4_isUnder cX4_isUnder 4 (some .boolean)) 2 := ⟨w936, w935, w98, by decide +kernel⟩
theorem dX4_isUnder_0 : decode cX4_isUnder 0 = .ok (.iload_n 0, 1) := by decide +kernel
theorem dX4_isUnder_1 : decode cX4_isUnder 1 = .ok (.istore_n 2, 1) := by decide +kernel
theorem dX4_isUnder_2 : decode cX4_isUnder 2 = .ok (.iconst 0, 1) := by decide +kernel
theorem dX4_isUnder_3 : decode cX4_isUnder 3 = .ok (.istore_n 3, 1) := by decide +kernel
theorem dX4_isUnder_4 : decode cX4_isUnder 4 = .ok (.iload_n 3, 1) := by decide +kernel
theorem dX4_isUnder_5 : decode cX4_isUnder 5 = .ok (.bipush 6, 2) := by decide +kernel
theorem dX4_isUnder_7 : decode cX4_isUnder 7 = .ok (.if_icmp .ge 33, 3) := by decide +kernel
theorem dX4_isUnder_10 : decode cX4_isUnder 10 = .ok (.iload_n 2, 1) := by decide +kernel
theorem dX4_isUnder_11 : decode cX4_isUnder 11 = .ok (.iload_n 1, 1) := by decide +kernel
theorem dX4_isUnder_12 : decode cX4_isUnder 12 = .ok (.if_icmp .ne 5, 3) := by decide +kernel
theorem dX4_isUnder_15 : decode cX4_isUnder 15 = .ok (.iconst 1, 1) := by decide +kernel
theorem dX4_isUnder_16 : decode cX4_isUnder 16 = .ok (.ireturn, 1) := by decide +kernel
theorem dX4_isUnder_17 : decode cX4_isUnder 17 = .ok (.iload_n 2, 1) := by decide +kernel
theorem dX4_isUnder_18 : decode cX4_isUnder 18 = .ok (.iconst 0, 1) := by decide +kernel
theorem dX4_isUnder_19 : decode cX4_isUnder 19 = .ok (.iconst 5, 1) := by decide +kernel
theorem dX4_isUnder_20 : decode cX4_isUnder 20 = .ok (.invokestatic 101, 3) := by decide +kernel
theorem dX4_isUnder_23 : decode cX4_isUnder 23 = .ok (.ifCond .ne 5, 3) := by decide +kernel
theorem dX4_isUnder_26 : decode cX4_isUnder 26 = .ok (.iconst 0, 1) := by decide +kernel
theorem dX4_isUnder_27 : decode cX4_isUnder 27 = .ok (.ireturn, 1) := by decide +kernel
theorem dX4_isUnder_28 : decode cX4_isUnder 28 = .ok (.getstatic 331, 3) := by decide +kernel
theorem dX4_isUnder_31 : decode cX4_isUnder 31 = .ok (.iload_n 2, 1) := by decide +kernel
theorem dX4_isUnder_32 : decode cX4_isUnder 32 = .ok (.iaload, 1) := by decide +kernel
theorem dX4_isUnder_33 : decode cX4_isUnder 33 = .ok (.istore_n 2, 1) := by decide +kernel
theorem dX4_isUnder_34 : decode cX4_isUnder 34 = .ok (.iinc 3 1, 3) := by decide +kernel
theorem dX4_isUnder_37 : decode cX4_isUnder 37 = .ok (.goto (-33), 3) := by decide +kernel
theorem dX4_isUnder_40 : decode cX4_isUnder 40 = .ok (.iconst 0, 1) := by decide +kernel
theorem dX4_isUnder_41 : decode cX4_isUnder 41 = .ok (.ireturn, 1) := by decide +kernel
