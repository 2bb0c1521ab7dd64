abbrev cX0_init : ByteArray := prog_2_method_1_code
abbrev mX0_init : MethodName := { cls := "KinInTheHeap$Floor", name := "<init>", desc := "([LKinInTheHeap$Text;)V" }
theorem dX0_init_0 : decode cX0_init 0 = .ok (.aload_n 0, 1) := by decide +kernel
theorem dX0_init_1 : decode cX0_init 1 = .ok (.invokespecial 3, 3) := by decide +kernel
theorem dX0_init_4 : decode cX0_init 4 = .ok (.aload_n 0, 1) := by decide +kernel
theorem dX0_init_5 : decode cX0_init 5 = .ok (.bipush 8, 2) := by decide +kernel
theorem dX0_init_7 : decode cX0_init 7 = .ok (.newarray .int, 2) := by decide +kernel
theorem dX0_init_9 : decode cX0_init 9 = .ok (.putfield 9, 3) := by decide +kernel
theorem dX0_init_12 : decode cX0_init 12 = .ok (.aload_n 0, 1) := by decide +kernel
theorem dX0_init_13 : decode cX0_init 13 = .ok (.bipush 8, 2) := by decide +kernel
theorem dX0_init_15 : decode cX0_init 15 = .ok (.newarray .int, 2) := by decide +kernel
theorem dX0_init_17 : decode cX0_init 17 = .ok (.putfield 15, 3) := by decide +kernel
theorem dX0_init_20 : decode cX0_init 20 = .ok (.aload_n 0, 1) := by decide +kernel
theorem dX0_init_21 : decode cX0_init 21 = .ok (.bipush 8, 2) := by decide +kernel
theorem dX0_init_23 : decode cX0_init 23 = .ok (.newarray .int, 2) := by decide +kernel
theorem dX0_init_25 : decode cX0_init 25 = .ok (.putfield 18, 3) := by decide +kernel
theorem dX0_init_28 : decode cX0_init 28 = .ok (.aload_n 0, 1) := by decide +kernel
theorem dX0_init_29 : decode cX0_init 29 = .ok (.iconst 3, 1) := by decide +kernel
theorem dX0_init_30 : decode cX0_init 30 = .ok (.putfield 21, 3) := by decide +kernel
theorem dX0_init_33 : decode cX0_init 33 = .ok (.aload_n 0, 1) := by decide +kernel
theorem dX0_init_34 : decode cX0_init 34 = .ok (.bipush 8, 2) := by decide +kernel
theorem dX0_init_36 : decode cX0_init 36 = .ok (.newarray .int, 2) := by decide +kernel
theorem dX0_init_38 : decode cX0_init 38 = .ok (.putfield 25, 3) := by decide +kernel
theorem dX0_init_41 : decode cX0_init 41 = .ok (.aload_n 0, 1) := by decide +kernel
theorem dX0_init_42 : decode cX0_init 42 = .ok (.bipush 6, 2) := by decide +kernel
theorem dX0_init_44 : decode cX0_init 44 = .ok (.newarray .int, 2) := by decide +kernel
theorem dX0_init_46 : decode cX0_init 46 = .ok (.putfield 28, 3) := by decide +kernel
theorem dX0_init_49 : decode cX0_init 49 = .ok (.aload_n 0, 1) := by decide +kernel
theorem dX0_init_50 : decode cX0_init 50 = .ok (.aload_n 1, 1) := by decide +kernel
theorem dX0_init_51 : decode cX0_init 51 = .ok (.putfield 31, 3) := by decide +kernel
theorem dX0_init_54 : decode cX0_init 54 = .ok (.return_, 1) := by decide +kernel
abbrev cX0_become : ByteArray := prog_2_method_2_code
abbrev mX0_become : MethodName := { cls := "KinInTheHeap$Floor", name := "become", desc := "(LKinInTheHeap$Floor;)V" }
theorem mwX0_become : MWV mX0_become (.code mX0_become cX0_become 2 none) "KinInTheHeap$Floor" 1 := ⟨w690, w688, w689, w102, w102, by decide +kernel⟩
theorem dX0_become_0 : decode cX0_become 0 = .ok (.aload_n 1, 1) := by decide +kernel
theorem dX0_become_1 : decode cX0_become 1 = .ok (.getfield 9, 3) := by decide +kernel
theorem dX0_become_4 : decode cX0_become 4 = .ok (.iconst 0, 1) := by decide +kernel
theorem dX0_become_5 : decode cX0_become 5 = .ok (.aload_n 0, 1) := by decide +kernel
theorem dX0_become_6 : decode cX0_become 6 = .ok (.getfield 9, 3) := by decide +kernel
theorem dX0_become_9 : decode cX0_become 9 = .ok (.iconst 0, 1) := by decide +kernel
theorem dX0_become_10 : decode cX0_become 10 = .ok (.bipush 8, 2) := by decide +kernel
theorem dX0_become_12 : decode cX0_become 12 = .ok (.invokestatic 35, 3) := by decide +kernel
theorem dX0_become_15 : decode cX0_become 15 = .ok (.aload_n 1, 1) := by decide +kernel
theorem dX0_become_16 : decode cX0_become 16 = .ok (.getfield 15, 3) := by decide +kernel
theorem dX0_become_19 : decode cX0_become 19 = .ok (.iconst 0, 1) := by decide +kernel
theorem dX0_become_20 : decode cX0_become 20 = .ok (.aload_n 0, 1) := by decide +kernel
theorem dX0_become_21 : decode cX0_become 21 = .ok (.getfield 15, 3) := by decide +kernel
theorem dX0_become_24 : decode cX0_become 24 = .ok (.iconst 0, 1) := by decide +kernel
theorem dX0_become_25 : decode cX0_become 25 = .ok (.bipush 8, 2) := by decide +kernel
theorem dX0_become_27 : decode cX0_become 27 = .ok (.invokestatic 35, 3) := by decide +kernel
theorem dX0_become_30 : decode cX0_become 30 = .ok (.aload_n 1, 1) := by decide +kernel
theorem dX0_become_31 : decode cX0_become 31 = .ok (.getfield 18, 3) := by decide +kernel
theorem dX0_become_34 : decode cX0_become 34 = .ok (.iconst 0, 1) := by decide +kernel
theorem dX0_become_35 : decode cX0_become 35 = .ok (.aload_n 0, 1) := by decide +kernel
theorem dX0_become_36 : decode cX0_become 36 = .ok (.getfield 18, 3) := by decide +kernel
theorem dX0_become_39 : decode cX0_become 39 = .ok (.iconst 0, 1) := by decide +kernel
theorem dX0_become_40 : decode cX0_become 40 = .ok (.bipush 8, 2) := by decide +kernel
theorem dX0_become_42 : decode cX0_become 42 = .ok (.invokestatic 35, 3) := by decide +kernel
theorem dX0_become_45 : decode cX0_become 45 = .ok (.aload_n 0, 1) := by decide +kernel
theorem dX0_become_46 : decode cX0_become 46 = .ok (.aload_n 1, 1) := by decide +kernel
theorem dX0_become_47 : decode cX0_become 47 = .ok (.getfield 41, 3) := by decide +kernel
theorem dX0_become_50 : decode cX0_become 50 = .ok (.putfield 41, 3) := by decide +kernel
theorem dX0_become_53 : decode cX0_become 53 = .ok (.aload_n 0, 1) := by decide +kernel
theorem dX0_become_54 : decode cX0_become 54 = .ok (.aload_n 1, 1) := by decide +kernel
theorem dX0_become_55 : decode cX0_become 55 = .ok (.getfield 45, 3) := by decide +kernel
theorem dX0_become_58 : decode cX0_become 58 = .ok (.putfield 45, 3) := by decide +kernel
theorem dX0_become_61 : decode cX0_become 61 = .ok (.aload_n 0, 1) := by decide +kernel
theorem dX0_become_62 : decode cX0_become 62 = .ok (.aload_n 1, 1) := by decide +kernel
theorem dX0_become_63 : decode cX0_become 63 = .ok (.getfield 21, 3) := by decide +kernel
theorem dX0_become_66 : decode cX0_become 66 = .ok (.putfield 21, 3) := by decide +kernel
theorem dX0_become_69 : decode cX0_become 69 = .ok (.aload_n 0, 1) := by decide +kernel
theorem dX0_become_70 : decode cX0_become 70 = .ok (.aload_n 1, 1) := by decide +kernel
theorem dX0_become_71 : decode cX0_become 71 = .ok (.getfield 48, 3) := by decide +kernel
theorem dX0_become_74 : decode cX0_become 74 = .ok (.putfield 48, 3) := by decide +kernel
theorem dX0_become_77 : decode cX0_become 77 = .ok (.aload_n 0, 1) := by decide +kernel
theorem dX0_become_78 : decode cX0_become 78 = .ok (.aload_n 1, 1) := by decide +kernel
theorem dX0_become_79 : decode cX0_become 79 = .ok (.getfield 51, 3) := by decide +kernel
theorem dX0_become_82 : decode cX0_become 82 = .ok (.putfield 51, 3) := by decide +kernel
theorem dX0_become_85 : decode cX0_become 85 = .ok (.return_, 1) := by decide +kernel
abbrev cX0_add : ByteArray := prog_2_method_3_code
abbrev mX0_add : MethodName := { cls := "KinInTheHeap$Floor", name := "add", desc := "(III)Z" }
theorem mwX0_add : MWV mX0_add (.code mX0_add cX0_add 4 (some .boolean)) "KinInTheHeap$Floor" 3 := ⟨w342, w340, w341, w102, w102, by decide +kernel⟩
theorem dX0_add_0 : decode cX0_add 0 = .ok (.aload_n 0, 1) := by decide +kernel
theorem dX0_add_1 : decode cX0_add 1 = .ok (.getfield 51, 3) := by decide +kernel
theorem dX0_add_4 : decode cX0_add 4 = .ok (.bipush 8, 2) := by decide +kernel
theorem dX0_add_6 : decode cX0_add 6 = .ok (.if_icmp .lt 5, 3) := by decide +kernel
theorem dX0_add_9 : decode cX0_add 9 = .ok (.iconst 0, 1) := by decide +kernel
theorem dX0_add_10 : decode cX0_add 10 = .ok (.ireturn, 1) := by decide +kernel
theorem dX0_add_11 : decode cX0_add 11 = .ok (.aload_n 0, 1) := by decide +kernel
theorem dX0_add_12 : decode cX0_add 12 = .ok (.getfield 9, 3) := by decide +kernel
theorem dX0_add_15 : decode cX0_add 15 = .ok (.aload_n 0, 1) := by decide +kernel
theorem dX0_add_16 : decode cX0_add 16 = .ok (.getfield 51, 3) := by decide +kernel
theorem dX0_add_19 : decode cX0_add 19 = .ok (.iload_n 1, 1) := by decide +kernel
theorem dX0_add_20 : decode cX0_add 20 = .ok (.iastore, 1) := by decide +kernel
theorem dX0_add_21 : decode cX0_add 21 = .ok (.aload_n 0, 1) := by decide +kernel
theorem dX0_add_22 : decode cX0_add 22 = .ok (.getfield 15, 3) := by decide +kernel
theorem dX0_add_25 : decode cX0_add 25 = .ok (.aload_n 0, 1) := by decide +kernel
theorem dX0_add_26 : decode cX0_add 26 = .ok (.getfield 51, 3) := by decide +kernel
theorem dX0_add_29 : decode cX0_add 29 = .ok (.iload_n 2, 1) := by decide +kernel
theorem dX0_add_30 : decode cX0_add 30 = .ok (.iastore, 1) := by decide +kernel
theorem dX0_add_31 : decode cX0_add 31 = .ok (.aload_n 0, 1) := by decide +kernel
theorem dX0_add_32 : decode cX0_add 32 = .ok (.getfield 18, 3) := by decide +kernel
theorem dX0_add_35 : decode cX0_add 35 = .ok (.aload_n 0, 1) := by decide +kernel
theorem dX0_add_36 : decode cX0_add 36 = .ok (.getfield 51, 3) := by decide +kernel
theorem dX0_add_39 : decode cX0_add 39 = .ok (.iload_n 3, 1) := by decide +kernel
theorem dX0_add_40 : decode cX0_add 40 = .ok (.iastore, 1) := by decide +kernel
theorem dX0_add_41 : decode cX0_add 41 = .ok (.aload_n 0, 1) := by decide +kernel
theorem dX0_add_42 : decode cX0_add 42 = .ok (.dup, 1) := by decide +kernel
theorem dX0_add_43 : decode cX0_add 43 = .ok (.getfield 51, 3) := by decide +kernel
theorem dX0_add_46 : decode cX0_add 46 = .ok (.iconst 1, 1) := by decide +kernel
theorem dX0_add_47 : decode cX0_add 47 = .ok (.iadd, 1) := by decide +kernel
theorem dX0_add_48 : decode cX0_add 48 = .ok (.putfield 51, 3) := by decide +kernel
theorem dX0_add_51 : decode cX0_add 51 = .ok (.iconst 1, 1) := by decide +kernel
theorem dX0_add_52 : decode cX0_add 52 = .ok (.ireturn, 1) := by decide +kernel
abbrev cX0_has : ByteArray := prog_2_method_4_code
abbrev mX0_has : MethodName := { cls := "KinInTheHeap$Floor", name := "has", desc := "(I)Z" }
theorem mwX0_has : MWV mX0_has (.code mX0_has cX0_has 2 (some .boolean)) "KinInTheHeap$Floor" 1 := ⟨w326, w324, w325, w102, w102, by decide +kernel⟩
theorem dX0_has_0 : decode cX0_has 0 = .ok (.iload_n 1, 1) := by decide +kernel
theorem dX0_has_1 : decode cX0_has 1 = .ok (.iconst 0, 1) := by decide +kernel
theorem dX0_has_2 : decode cX0_has 2 = .ok (.aload_n 0, 1) := by decide +kernel
theorem dX0_has_3 : decode cX0_has 3 = .ok (.getfield 51, 3) := by decide +kernel
theorem dX0_has_6 : decode cX0_has 6 = .ok (.iconst 1, 1) := by decide +kernel
theorem dX0_has_7 : decode cX0_has 7 = .ok (.isub, 1) := by decide +kernel
theorem dX0_has_8 : decode cX0_has 8 = .ok (.invokestatic 54, 3) := by decide +kernel
theorem dX0_has_11 : decode cX0_has 11 = .ok (.ireturn, 1) := by decide +kernel
abbrev cX0_isIn : ByteArray := prog_2_method_5_code
abbrev mX0_isIn : MethodName := { cls := "KinInTheHeap$Floor", name := "isIn", desc := "(I)Z" }
theorem mwX0_isIn : MWV mX0_isIn (.code mX0_isIn cX0_isIn 2 (some .boolean)) "KinInTheHeap$Floor" 1 := ⟨w366, w364, w365, w102, w102, by decide +kernel⟩
theorem dX0_isIn_0 : decode cX0_isIn 0 = .ok (.aload_n 0, 1) := by decide +kernel
theorem dX0_isIn_1 : decode cX0_isIn 1 = .ok (.iload_n 1, 1) := by decide +kernel
theorem dX0_isIn_2 : decode cX0_isIn 2 = .ok (.invokevirtual 58, 3) := by decide +kernel
theorem dX0_isIn_5 : decode cX0_isIn 5 = .ok (.ifCond .eq 17, 3) := by decide +kernel
theorem dX0_isIn_8 : decode cX0_isIn 8 = .ok (.aload_n 0, 1) := by decide +kernel
theorem dX0_isIn_9 : decode cX0_isIn 9 = .ok (.getfield 18, 3) := by decide +kernel
theorem dX0_isIn_12 : decode cX0_isIn 12 = .ok (.iload_n 1, 1) := by decide +kernel
theorem dX0_isIn_13 : decode cX0_isIn 13 = .ok (.iaload, 1) := by decide +kernel
theorem dX0_isIn_14 : decode cX0_isIn 14 = .ok (.iconst (-1), 1) := by decide +kernel
theorem dX0_isIn_15 : decode cX0_isIn 15 = .ok (.if_icmp .eq 7, 3) := by decide +kernel
theorem dX0_isIn_18 : decode cX0_isIn 18 = .ok (.iconst 1, 1) := by decide +kernel
theorem dX0_isIn_19 : decode cX0_isIn 19 = .ok (.goto 4, 3) := by decide +kernel
theorem dX0_isIn_22 : decode cX0_isIn 22 = .ok (.iconst 0, 1) := by decide +kernel
theorem dX0_isIn_23 : decode cX0_isIn 23 = .ok (.ireturn, 1) := by decide +kernel
abbrev cX0_isCracked : ByteArray := prog_2_method_6_code
abbrev mX0_isCracked : MethodName := { cls := "KinInTheHeap$Floor", name := "isCracked", desc := "(I)Z" }
theorem mwX0_isCracked : MWV mX0_isCracked (.code mX0_isCracked cX0_isCracked 2 (some .boolean)) "KinInTheHeap$Floor" 1 := ⟨w317, w315, w316, w102, w102, by decide +kernel⟩
theorem dX0_isCracked_0 : decode cX0_isCracked 0 = .ok (.aload_n 0, 1) := by decide +kernel
theorem dX0_isCracked_1 : decode cX0_isCracked 1 = .ok (.getfield 41, 3) := by decide +kernel
theorem dX0_isCracked_4 : decode cX0_isCracked 4 = .ok (.iload_n 1, 1) := by decide +kernel
theorem dX0_isCracked_5 : decode cX0_isCracked 5 = .ok (.lushr, 1) := by decide +kernel
theorem dX0_isCracked_6 : decode cX0_isCracked 6 = .ok (.lconst 1, 1) := by decide +kernel
theorem dX0_isCracked_7 : decode cX0_isCracked 7 = .ok (.land, 1) := by decide +kernel
theorem dX0_isCracked_8 : decode cX0_isCracked 8 = .ok (.lconst 0, 1) := by decide +kernel
theorem dX0_isCracked_9 : decode cX0_isCracked 9 = .ok (.lcmp, 1) := by decide +kernel
theorem dX0_isCracked_10 : decode cX0_isCracked 10 = .ok (.ifCond .eq 7, 3) := by decide +kernel
theorem dX0_isCracked_13 : decode cX0_isCracked 13 = .ok (.iconst 1, 1) := by decide +kernel
theorem dX0_isCracked_14 : decode cX0_isCracked 14 = .ok (.goto 4, 3) := by decide +kernel
theorem dX0_isCracked_17 : decode cX0_isCracked 17 = .ok (.iconst 0, 1) := by decide +kernel
theorem dX0_isCracked_18 : decode cX0_isCracked 18 = .ok (.ireturn, 1) := by decide +kernel
abbrev cX0_thoseIn : ByteArray := prog_2_method_7_code
abbrev mX0_thoseIn : MethodName := { cls := "KinInTheHeap$Floor", name := "thoseIn", desc := "(I)I" }
theorem mwX0_thoseIn : MWV mX0_thoseIn (.code mX0_thoseIn cX0_thoseIn 4 (some .int)) "KinInTheHeap$Floor" 1 := ⟨w354, w352, w353, w102, w102, by decide +kernel⟩
theorem dX0_thoseIn_0 : decode cX0_thoseIn 0 = .ok (.iconst 0, 1) := by decide +kernel
theorem dX0_thoseIn_1 : decode cX0_thoseIn 1 = .ok (.istore_n 2, 1) := by decide +kernel
theorem dX0_thoseIn_2 : decode cX0_thoseIn 2 = .ok (.iconst 0, 1) := by decide +kernel
theorem dX0_thoseIn_3 : decode cX0_thoseIn 3 = .ok (.istore_n 3, 1) := by decide +kernel
theorem dX0_thoseIn_4 : decode cX0_thoseIn 4 = .ok (.iload_n 3, 1) := by decide +kernel
theorem dX0_thoseIn_5 : decode cX0_thoseIn 5 = .ok (.aload_n 0, 1) := by decide +kernel
theorem dX0_thoseIn_6 : decode cX0_thoseIn 6 = .ok (.getfield 51, 3) := by decide +kernel
theorem dX0_thoseIn_9 : decode cX0_thoseIn 9 = .ok (.if_icmp .ge 25, 3) := by decide +kernel
theorem dX0_thoseIn_12 : decode cX0_thoseIn 12 = .ok (.aload_n 0, 1) := by decide +kernel
theorem dX0_thoseIn_13 : decode cX0_thoseIn 13 = .ok (.getfield 18, 3) := by decide +kernel
theorem dX0_thoseIn_16 : decode cX0_thoseIn 16 = .ok (.iload_n 3, 1) := by decide +kernel
theorem dX0_thoseIn_17 : decode cX0_thoseIn 17 = .ok (.iaload, 1) := by decide +kernel
theorem dX0_thoseIn_18 : decode cX0_thoseIn 18 = .ok (.iload_n 1, 1) := by decide +kernel
theorem dX0_thoseIn_19 : decode cX0_thoseIn 19 = .ok (.if_icmp .ne 9, 3) := by decide +kernel
theorem dX0_thoseIn_22 : decode cX0_thoseIn 22 = .ok (.iload_n 2, 1) := by decide +kernel
theorem dX0_thoseIn_23 : decode cX0_thoseIn 23 = .ok (.iconst 1, 1) := by decide +kernel
theorem dX0_thoseIn_24 : decode cX0_thoseIn 24 = .ok (.iload_n 3, 1) := by decide +kernel
theorem dX0_thoseIn_25 : decode cX0_thoseIn 25 = .ok (.ishl, 1) := by decide +kernel
theorem dX0_thoseIn_26 : decode cX0_thoseIn 26 = .ok (.ior, 1) := by decide +kernel
theorem dX0_thoseIn_27 : decode cX0_thoseIn 27 = .ok (.istore_n 2, 1) := by decide +kernel
theorem dX0_thoseIn_28 : decode cX0_thoseIn 28 = .ok (.iinc 3 1, 3) := by decide +kernel
theorem dX0_thoseIn_31 : decode cX0_thoseIn 31 = .ok (.goto (-27), 3) := by decide +kernel
theorem dX0_thoseIn_34 : decode cX0_thoseIn 34 = .ok (.iload_n 2, 1) := by decide +kernel
theorem dX0_thoseIn_35 : decode cX0_thoseIn 35 = .ok (.ireturn, 1) := by decide +kernel
abbrev cX0_outs : ByteArray := prog_2_method_8_code
abbrev mX0_outs : MethodName := { cls := "KinInTheHeap$Floor", name := "outs", desc := "()I" }
theorem mwX0_outs : MWV mX0_outs (.code mX0_outs cX0_outs 1 (some .int)) "KinInTheHeap$Floor" 0 := ⟨w786, w784, w785, w102, w102, by decide +kernel⟩
theorem dX0_outs_0 : decode cX0_outs 0 = .ok (.aload_n 0, 1) := by decide +kernel
theorem dX0_outs_1 : decode cX0_outs 1 = .ok (.iconst (-1), 1) := by decide +kernel
theorem dX0_outs_2 : decode cX0_outs 2 = .ok (.invokevirtual 62, 3) := by decide +kernel
theorem dX0_outs_5 : decode cX0_outs 5 = .ok (.invokestatic 66, 3) := by decide +kernel
theorem dX0_outs_8 : decode cX0_outs 8 = .ok (.ireturn, 1) := by decide +kernel
abbrev cX0_areGathered : ByteArray := prog_2_method_9_code
abbrev mX0_areGathered : MethodName := { cls := "KinInTheHeap$Floor", name := "areGathered", desc := "(I)Z" }
theorem mwX0_areGathered : MWV mX0_areGathered (.code mX0_areGathered cX0_areGathered 4 (some .boolean)) "KinInTheHeap$Floor" 1 := ⟨w762, w760, w761, w102, w102, by decide +kernel⟩
theorem dX0_areGathered_0 : decode cX0_areGathered 0 = .ok (.iconst (-1), 1) := by decide +kernel
theorem dX0_areGathered_1 : decode cX0_areGathered 1 = .ok (.istore_n 2, 1) := by decide +kernel
theorem dX0_areGathered_2 : decode cX0_areGathered 2 = .ok (.iconst 0, 1) := by decide +kernel
theorem dX0_areGathered_3 : decode cX0_areGathered 3 = .ok (.istore_n 3, 1) := by decide +kernel
theorem dX0_areGathered_4 : decode cX0_areGathered 4 = .ok (.iload_n 3, 1) := by decide +kernel
theorem dX0_areGathered_5 : decode cX0_areGathered 5 = .ok (.aload_n 0, 1) := by decide +kernel
theorem dX0_areGathered_6 : decode cX0_areGathered 6 = .ok (.getfield 51, 3) := by decide +kernel
theorem dX0_areGathered_9 : decode cX0_areGathered 9 = .ok (.if_icmp .ge 51, 3) := by decide +kernel
theorem dX0_areGathered_12 : decode cX0_areGathered 12 = .ok (.iload_n 1, 1) := by decide +kernel
theorem dX0_areGathered_13 : decode cX0_areGathered 13 = .ok (.iload_n 3, 1) := by decide +kernel
theorem dX0_areGathered_14 : decode cX0_areGathered 14 = .ok (.ishr, 1) := by decide +kernel
theorem dX0_areGathered_15 : decode cX0_areGathered 15 = .ok (.iconst 1, 1) := by decide +kernel
theorem dX0_areGathered_16 : decode cX0_areGathered 16 = .ok (.iand, 1) := by decide +kernel
theorem dX0_areGathered_17 : decode cX0_areGathered 17 = .ok (.ifCond .eq 37, 3) := by decide +kernel
theorem dX0_areGathered_20 : decode cX0_areGathered 20 = .ok (.aload_n 0, 1) := by decide +kernel
theorem dX0_areGathered_21 : decode cX0_areGathered 21 = .ok (.getfield 18, 3) := by decide +kernel
theorem dX0_areGathered_24 : decode cX0_areGathered 24 = .ok (.iload_n 3, 1) := by decide +kernel
theorem dX0_areGathered_25 : decode cX0_areGathered 25 = .ok (.iaload, 1) := by decide +kernel
theorem dX0_areGathered_26 : decode cX0_areGathered 26 = .ok (.iconst (-1), 1) := by decide +kernel
theorem dX0_areGathered_27 : decode cX0_areGathered 27 = .ok (.if_icmp .eq 18, 3) := by decide +kernel
theorem dX0_areGathered_30 : decode cX0_areGathered 30 = .ok (.iload_n 2, 1) := by decide +kernel
theorem dX0_areGathered_31 : decode cX0_areGathered 31 = .ok (.iconst (-1), 1) := by decide +kernel
theorem dX0_areGathered_32 : decode cX0_areGathered 32 = .ok (.if_icmp .eq 15, 3) := by decide +kernel
theorem dX0_areGathered_35 : decode cX0_areGathered 35 = .ok (.aload_n 0, 1) := by decide +kernel
theorem dX0_areGathered_36 : decode cX0_areGathered 36 = .ok (.getfield 18, 3) := by decide +kernel
theorem dX0_areGathered_39 : decode cX0_areGathered 39 = .ok (.iload_n 3, 1) := by decide +kernel
theorem dX0_areGathered_40 : decode cX0_areGathered 40 = .ok (.iaload, 1) := by decide +kernel
theorem dX0_areGathered_41 : decode cX0_areGathered 41 = .ok (.iload_n 2, 1) := by decide +kernel
theorem dX0_areGathered_42 : decode cX0_areGathered 42 = .ok (.if_icmp .eq 5, 3) := by decide +kernel
theorem dX0_areGathered_45 : decode cX0_areGathered 45 = .ok (.iconst 0, 1) := by decide +kernel
theorem dX0_areGathered_46 : decode cX0_areGathered 46 = .ok (.ireturn, 1) := by decide +kernel
theorem dX0_areGathered_47 : decode cX0_areGathered 47 = .ok (.aload_n 0, 1) := by decide +kernel
theorem dX0_areGathered_48 : decode cX0_areGathered 48 = .ok (.getfield 18, 3) := by decide +kernel
theorem dX0_areGathered_51 : decode cX0_areGathered 51 = .ok (.iload_n 3, 1) := by decide +kernel
theorem dX0_areGathered_52 : decode cX0_areGathered 52 = .ok (.iaload, 1) := by decide +kernel
theorem dX0_areGathered_53 : decode cX0_areGathered 53 = .ok (.istore_n 2, 1) := by decide +kernel
theorem dX0_areGathered_54 : decode cX0_areGathered 54 = .ok (.iinc 3 1, 3) := by decide +kernel
theorem dX0_areGathered_57 : decode cX0_areGathered 57 = .ok (.goto (-53), 3) := by decide +kernel
theorem dX0_areGathered_60 : decode cX0_areGathered 60 = .ok (.iload_n 2, 1) := by decide +kernel
theorem dX0_areGathered_61 : decode cX0_areGathered 61 = .ok (.iconst (-1), 1) := by decide +kernel
theorem dX0_areGathered_62 : decode cX0_areGathered 62 = .ok (.if_icmp .eq 7, 3) := by decide +kernel
theorem dX0_areGathered_65 : decode cX0_areGathered 65 = .ok (.iconst 1, 1) := by decide +kernel
theorem dX0_areGathered_66 : decode cX0_areGathered 66 = .ok (.goto 4, 3) := by decide +kernel
theorem dX0_areGathered_69 : decode cX0_areGathered 69 = .ok (.iconst 0, 1) := by decide +kernel
theorem dX0_areGathered_70 : decode cX0_areGathered 70 = .ok (.ireturn, 1) := by decide +kernel
abbrev cX0_differs : ByteArray := prog_2_method_10_code
abbrev mX0_differs : MethodName := { cls := "KinInTheHeap$Floor", name := "differs", desc := "(LKinInTheHeap$Floor;)Z" }
theorem mwX0_differs : MWV mX0_differs (.code mX0_differs cX0_differs 3 (some .boolean)) "KinInTheHeap$Floor" 1 := ⟨w797, w795, w796, w102, w102, by decide +kernel⟩
theorem dX0_differs_0 : decode cX0_differs 0 = .ok (.iconst 0, 1) := by decide +kernel
theorem dX0_differs_1 : decode cX0_differs 1 = .ok (.istore_n 2, 1) := by decide +kernel
theorem dX0_differs_2 : decode cX0_differs 2 = .ok (.iload_n 2, 1) := by decide +kernel
theorem dX0_differs_3 : decode cX0_differs 3 = .ok (.aload_n 0, 1) := by decide +kernel
theorem dX0_differs_4 : decode cX0_differs 4 = .ok (.getfield 51, 3) := by decide +kernel
theorem dX0_differs_7 : decode cX0_differs 7 = .ok (.if_icmp .ge 26, 3) := by decide +kernel
theorem dX0_differs_10 : decode cX0_differs 10 = .ok (.aload_n 0, 1) := by decide +kernel
theorem dX0_differs_11 : decode cX0_differs 11 = .ok (.getfield 18, 3) := by decide +kernel
theorem dX0_differs_14 : decode cX0_differs 14 = .ok (.iload_n 2, 1) := by decide +kernel
theorem dX0_differs_15 : decode cX0_differs 15 = .ok (.iaload, 1) := by decide +kernel
theorem dX0_differs_16 : decode cX0_differs 16 = .ok (.aload_n 1, 1) := by decide +kernel
theorem dX0_differs_17 : decode cX0_differs 17 = .ok (.getfield 18, 3) := by decide +kernel
theorem dX0_differs_20 : decode cX0_differs 20 = .ok (.iload_n 2, 1) := by decide +kernel
theorem dX0_differs_21 : decode cX0_differs 21 = .ok (.iaload, 1) := by decide +kernel
theorem dX0_differs_22 : decode cX0_differs 22 = .ok (.if_icmp .eq 5, 3) := by decide +kernel
theorem dX0_differs_25 : decode cX0_differs 25 = .ok (.iconst 1, 1) := by decide +kernel
theorem dX0_differs_26 : decode cX0_differs 26 = .ok (.ireturn, 1) := by decide +kernel
theorem dX0_differs_27 : decode cX0_differs 27 = .ok (.iinc 2 1, 3) := by decide +kernel
theorem dX0_differs_30 : decode cX0_differs 30 = .ok (.goto (-28), 3) := by decide +kernel
theorem dX0_differs_33 : decode cX0_differs 33 = .ok (.iconst 0, 1) := by decide +kernel
theorem dX0_differs_34 : decode cX0_differs 34 = .ok (.ireturn, 1) := by decide +kernel
abbrev cX0_heapBits : ByteArray := prog_2_method_11_code
abbrev mX0_heapBits : MethodName := { cls := "KinInTheHeap$Floor", name := "heapBits", desc := "()J" }
theorem mwX0_heapBits : MWV mX0_heapBits (.code mX0_heapBits cX0_heapBits 4 (some .long)) "KinInTheHeap$Floor" 0 := ⟨w711, w709, w710, w102, w102, by decide +kernel⟩
theorem dX0_heapBits_0 : decode cX0_heapBits 0 = .ok (.lconst 0, 1) := by decide +kernel
theorem dX0_heapBits_1 : decode cX0_heapBits 1 = .ok (.lstore_n 1, 1) := by decide +kernel
theorem dX0_heapBits_2 : decode cX0_heapBits 2 = .ok (.iconst 0, 1) := by decide +kernel
theorem dX0_heapBits_3 : decode cX0_heapBits 3 = .ok (.istore_n 3, 1) := by decide +kernel
theorem dX0_heapBits_4 : decode cX0_heapBits 4 = .ok (.iload_n 3, 1) := by decide +kernel
theorem dX0_heapBits_5 : decode cX0_heapBits 5 = .ok (.aload_n 0, 1) := by decide +kernel
theorem dX0_heapBits_6 : decode cX0_heapBits 6 = .ok (.getfield 51, 3) := by decide +kernel
theorem dX0_heapBits_9 : decode cX0_heapBits 9 = .ok (.if_icmp .ge 30, 3) := by decide +kernel
theorem dX0_heapBits_12 : decode cX0_heapBits 12 = .ok (.aload_n 0, 1) := by decide +kernel
theorem dX0_heapBits_13 : decode cX0_heapBits 13 = .ok (.getfield 18, 3) := by decide +kernel
theorem dX0_heapBits_16 : decode cX0_heapBits 16 = .ok (.iload_n 3, 1) := by decide +kernel
theorem dX0_heapBits_17 : decode cX0_heapBits 17 = .ok (.iaload, 1) := by decide +kernel
theorem dX0_heapBits_18 : decode cX0_heapBits 18 = .ok (.iconst (-1), 1) := by decide +kernel
theorem dX0_heapBits_19 : decode cX0_heapBits 19 = .ok (.if_icmp .eq 14, 3) := by decide +kernel
theorem dX0_heapBits_22 : decode cX0_heapBits 22 = .ok (.lload_n 1, 1) := by decide +kernel
theorem dX0_heapBits_23 : decode cX0_heapBits 23 = .ok (.lconst 1, 1) := by decide +kernel
theorem dX0_heapBits_24 : decode cX0_heapBits 24 = .ok (.aload_n 0, 1) := by decide +kernel
theorem dX0_heapBits_25 : decode cX0_heapBits 25 = .ok (.getfield 18, 3) := by decide +kernel
theorem dX0_heapBits_28 : decode cX0_heapBits 28 = .ok (.iload_n 3, 1) := by decide +kernel
theorem dX0_heapBits_29 : decode cX0_heapBits 29 = .ok (.iaload, 1) := by decide +kernel
theorem dX0_heapBits_30 : decode cX0_heapBits 30 = .ok (.lshl, 1) := by decide +kernel
theorem dX0_heapBits_31 : decode cX0_heapBits 31 = .ok (.lor, 1) := by decide +kernel
theorem dX0_heapBits_32 : decode cX0_heapBits 32 = .ok (.lstore_n 1, 1) := by decide +kernel
theorem dX0_heapBits_33 : decode cX0_heapBits 33 = .ok (.iinc 3 1, 3) := by decide +kernel
theorem dX0_heapBits_36 : decode cX0_heapBits 36 = .ok (.goto (-32), 3) := by decide +kernel
theorem dX0_heapBits_39 : decode cX0_heapBits 39 = .ok (.lload_n 1, 1) := by decide +kernel
theorem dX0_heapBits_40 : decode cX0_heapBits 40 = .ok (.lreturn, 1) := by decide +kernel
abbrev cX0_heaps : ByteArray := prog_2_method_12_code
abbrev mX0_heaps : MethodName := { cls := "KinInTheHeap$Floor", name := "heaps", desc := "()I" }
theorem mwX0_heaps : MWV mX0_heaps (.code mX0_heaps cX0_heaps 1 (some .int)) "KinInTheHeap$Floor" 0 := ⟨w707, w705, w706, w102, w102, by decide +kernel⟩
theorem dX0_heaps_0 : decode cX0_heaps 0 = .ok (.aload_n 0, 1) := by decide +kernel
theorem dX0_heaps_1 : decode cX0_heaps 1 = .ok (.invokevirtual 71, 3) := by decide +kernel
theorem dX0_heaps_4 : decode cX0_heaps 4 = .ok (.invokestatic 75, 3) := by decide +kernel
theorem dX0_heaps_7 : decode cX0_heaps 7 = .ok (.ireturn, 1) := by decide +kernel
abbrev cX0_greatest : ByteArray := prog_2_method_13_code
abbrev mX0_greatest : MethodName := { cls := "KinInTheHeap$Floor", name := "greatest", desc := "()I" }
theorem mwX0_greatest : MWV mX0_greatest (.code mX0_greatest cX0_greatest 3 (some .int)) "KinInTheHeap$Floor" 0 := ⟨w736, w734, w735, w102, w102, by decide +kernel⟩
theorem dX0_greatest_0 : decode cX0_greatest 0 = .ok (.iconst 0, 1) := by decide +kernel
theorem dX0_greatest_1 : decode cX0_greatest 1 = .ok (.istore_n 1, 1) := by decide +kernel
theorem dX0_greatest_2 : decode cX0_greatest 2 = .ok (.iconst 0, 1) := by decide +kernel
theorem dX0_greatest_3 : decode cX0_greatest 3 = .ok (.istore_n 2, 1) := by decide +kernel
theorem dX0_greatest_4 : decode cX0_greatest 4 = .ok (.iload_n 2, 1) := by decide +kernel
theorem dX0_greatest_5 : decode cX0_greatest 5 = .ok (.aload_n 0, 1) := by decide +kernel
theorem dX0_greatest_6 : decode cX0_greatest 6 = .ok (.getfield 51, 3) := by decide +kernel
theorem dX0_greatest_9 : decode cX0_greatest 9 = .ok (.if_icmp .ge 29, 3) := by decide +kernel
theorem dX0_greatest_12 : decode cX0_greatest 12 = .ok (.aload_n 0, 1) := by decide +kernel
theorem dX0_greatest_13 : decode cX0_greatest 13 = .ok (.getfield 18, 3) := by decide +kernel
theorem dX0_greatest_16 : decode cX0_greatest 16 = .ok (.iload_n 2, 1) := by decide +kernel
theorem dX0_greatest_17 : decode cX0_greatest 17 = .ok (.iaload, 1) := by decide +kernel
theorem dX0_greatest_18 : decode cX0_greatest 18 = .ok (.iconst (-1), 1) := by decide +kernel
theorem dX0_greatest_19 : decode cX0_greatest 19 = .ok (.if_icmp .eq 13, 3) := by decide +kernel
theorem dX0_greatest_22 : decode cX0_greatest 22 = .ok (.iload_n 1, 1) := by decide +kernel
theorem dX0_greatest_23 : decode cX0_greatest 23 = .ok (.aload_n 0, 1) := by decide +kernel
theorem dX0_greatest_24 : decode cX0_greatest 24 = .ok (.iload_n 2, 1) := by decide +kernel
theorem dX0_greatest_25 : decode cX0_greatest 25 = .ok (.invokevirtual 80, 3) := by decide +kernel
theorem dX0_greatest_28 : decode cX0_greatest 28 = .ok (.invokestatic 83, 3) := by decide +kernel
theorem dX0_greatest_31 : decode cX0_greatest 31 = .ok (.istore_n 1, 1) := by decide +kernel
theorem dX0_greatest_32 : decode cX0_greatest 32 = .ok (.iinc 2 1, 3) := by decide +kernel
theorem dX0_greatest_35 : decode cX0_greatest 35 = .ok (.goto (-31), 3) := by decide +kernel
theorem dX0_greatest_38 : decode cX0_greatest 38 = .ok (.iload_n 1, 1) := by decide +kernel
theorem dX0_greatest_39 : decode cX0_greatest 39 = .ok (.ireturn, 1) := by decide +kernel
abbrev cX0_together : ByteArray := prog_2_method_14_code
abbrev mX0_together : MethodName := { cls := "KinInTheHeap$Floor", name := "together", desc := "()I" }
theorem mwX0_together : MWV mX0_together (.code mX0_together cX0_together 4 (some .int)) "KinInTheHeap$Floor" 0 := ⟨w703, w701, w702, w102, w102, by decide +kernel⟩
theorem dX0_together_0 : decode cX0_together 0 = .ok (.iconst 0, 1) := by decide +kernel
theorem dX0_together_1 : decode cX0_together 1 = .ok (.istore_n 1, 1) := by decide +kernel
theorem dX0_together_2 : decode cX0_together 2 = .ok (.iconst 0, 1) := by decide +kernel
theorem dX0_together_3 : decode cX0_together 3 = .ok (.istore_n 2, 1) := by decide +kernel
theorem dX0_together_4 : decode cX0_together 4 = .ok (.iload_n 2, 1) := by decide +kernel
theorem dX0_together_5 : decode cX0_together 5 = .ok (.aload_n 0, 1) := by decide +kernel
theorem dX0_together_6 : decode cX0_together 6 = .ok (.getfield 51, 3) := by decide +kernel
theorem dX0_together_9 : decode cX0_together 9 = .ok (.if_icmp .ge 50, 3) := by decide +kernel
theorem dX0_together_12 : decode cX0_together 12 = .ok (.iconst 0, 1) := by decide +kernel
theorem dX0_together_13 : decode cX0_together 13 = .ok (.istore_n 3, 1) := by decide +kernel
theorem dX0_together_14 : decode cX0_together 14 = .ok (.iload_n 3, 1) := by decide +kernel
theorem dX0_together_15 : decode cX0_together 15 = .ok (.iload_n 2, 1) := by decide +kernel
theorem dX0_together_16 : decode cX0_together 16 = .ok (.if_icmp .ge 37, 3) := by decide +kernel
theorem dX0_together_19 : decode cX0_together 19 = .ok (.aload_n 0, 1) := by decide +kernel
theorem dX0_together_20 : decode cX0_together 20 = .ok (.getfield 18, 3) := by decide +kernel
theorem dX0_together_23 : decode cX0_together 23 = .ok (.iload_n 2, 1) := by decide +kernel
theorem dX0_together_24 : decode cX0_together 24 = .ok (.iaload, 1) := by decide +kernel
theorem dX0_together_25 : decode cX0_together 25 = .ok (.iconst (-1), 1) := by decide +kernel
theorem dX0_together_26 : decode cX0_together 26 = .ok (.if_icmp .eq 21, 3) := by decide +kernel
theorem dX0_together_29 : decode cX0_together 29 = .ok (.aload_n 0, 1) := by decide +kernel
theorem dX0_together_30 : decode cX0_together 30 = .ok (.getfield 18, 3) := by decide +kernel
theorem dX0_together_33 : decode cX0_together 33 = .ok (.iload_n 2, 1) := by decide +kernel
theorem dX0_together_34 : decode cX0_together 34 = .ok (.iaload, 1) := by decide +kernel
theorem dX0_together_35 : decode cX0_together 35 = .ok (.aload_n 0, 1) := by decide +kernel
theorem dX0_together_36 : decode cX0_together 36 = .ok (.getfield 18, 3) := by decide +kernel
theorem dX0_together_39 : decode cX0_together 39 = .ok (.iload_n 3, 1) := by decide +kernel
theorem dX0_together_40 : decode cX0_together 40 = .ok (.iaload, 1) := by decide +kernel
theorem dX0_together_41 : decode cX0_together 41 = .ok (.if_icmp .ne 6, 3) := by decide +kernel
theorem dX0_together_44 : decode cX0_together 44 = .ok (.iinc 1 1, 3) := by decide +kernel
theorem dX0_together_47 : decode cX0_together 47 = .ok (.iinc 3 1, 3) := by decide +kernel
theorem dX0_together_50 : decode cX0_together 50 = .ok (.goto (-36), 3) := by decide +kernel
theorem dX0_together_53 : decode cX0_together 53 = .ok (.iinc 2 1, 3) := by decide +kernel
theorem dX0_together_56 : decode cX0_together 56 = .ok (.goto (-52), 3) := by decide +kernel
theorem dX0_together_59 : decode cX0_together 59 = .ok (.iload_n 1, 1) := by decide +kernel
theorem dX0_together_60 : decode cX0_together 60 = .ok (.ireturn, 1) := by decide +kernel
abbrev cX0_spread : ByteArray := prog_2_method_15_code
abbrev mX0_spread : MethodName := { cls := "KinInTheHeap$Floor", name := "spread", desc := "()I" }
theorem mwX0_spread : MWV mX0_spread (.code mX0_spread cX0_spread 4 (some .int)) "KinInTheHeap$Floor" 0 := ⟨w721, w719, w720, w102, w102, by decide +kernel⟩
theorem dX0_spread_0 : decode cX0_spread 0 = .ok (.iconst 0, 1) := by decide +kernel
theorem dX0_spread_1 : decode cX0_spread 1 = .ok (.istore_n 1, 1) := by decide +kernel
theorem dX0_spread_2 : decode cX0_spread 2 = .ok (.iconst 0, 1) := by decide +kernel
theorem dX0_spread_3 : decode cX0_spread 3 = .ok (.istore_n 2, 1) := by decide +kernel
theorem dX0_spread_4 : decode cX0_spread 4 = .ok (.iload_n 2, 1) := by decide +kernel
theorem dX0_spread_5 : decode cX0_spread 5 = .ok (.aload_n 0, 1) := by decide +kernel
theorem dX0_spread_6 : decode cX0_spread 6 = .ok (.getfield 51, 3) := by decide +kernel
theorem dX0_spread_9 : decode cX0_spread 9 = .ok (.if_icmp .ge 92, 3) := by decide +kernel
theorem dX0_spread_12 : decode cX0_spread 12 = .ok (.iconst 0, 1) := by decide +kernel
theorem dX0_spread_13 : decode cX0_spread 13 = .ok (.istore_n 3, 1) := by decide +kernel
theorem dX0_spread_14 : decode cX0_spread 14 = .ok (.iload_n 3, 1) := by decide +kernel
theorem dX0_spread_15 : decode cX0_spread 15 = .ok (.iload_n 2, 1) := by decide +kernel
theorem dX0_spread_16 : decode cX0_spread 16 = .ok (.if_icmp .ge 79, 3) := by decide +kernel
theorem dX0_spread_19 : decode cX0_spread 19 = .ok (.aload_n 0, 1) := by decide +kernel
theorem dX0_spread_20 : decode cX0_spread 20 = .ok (.getfield 18, 3) := by decide +kernel
theorem dX0_spread_23 : decode cX0_spread 23 = .ok (.iload_n 2, 1) := by decide +kernel
theorem dX0_spread_24 : decode cX0_spread 24 = .ok (.iaload, 1) := by decide +kernel
theorem dX0_spread_25 : decode cX0_spread 25 = .ok (.iconst (-1), 1) := by decide +kernel
theorem dX0_spread_26 : decode cX0_spread 26 = .ok (.if_icmp .eq 63, 3) := by decide +kernel
theorem dX0_spread_29 : decode cX0_spread 29 = .ok (.aload_n 0, 1) := by decide +kernel
theorem dX0_spread_30 : decode cX0_spread 30 = .ok (.getfield 18, 3) := by decide +kernel
theorem dX0_spread_33 : decode cX0_spread 33 = .ok (.iload_n 3, 1) := by decide +kernel
theorem dX0_spread_34 : decode cX0_spread 34 = .ok (.iaload, 1) := by decide +kernel
theorem dX0_spread_35 : decode cX0_spread 35 = .ok (.iconst (-1), 1) := by decide +kernel
theorem dX0_spread_36 : decode cX0_spread 36 = .ok (.if_icmp .eq 53, 3) := by decide +kernel
theorem dX0_spread_39 : decode cX0_spread 39 = .ok (.iload_n 1, 1) := by decide +kernel
theorem dX0_spread_40 : decode cX0_spread 40 = .ok (.aload_n 0, 1) := by decide +kernel
theorem dX0_spread_41 : decode cX0_spread 41 = .ok (.getfield 18, 3) := by decide +kernel
theorem dX0_spread_44 : decode cX0_spread 44 = .ok (.iload_n 2, 1) := by decide +kernel
theorem dX0_spread_45 : decode cX0_spread 45 = .ok (.iaload, 1) := by decide +kernel
theorem dX0_spread_46 : decode cX0_spread 46 = .ok (.bipush 6, 2) := by decide +kernel
theorem dX0_spread_48 : decode cX0_spread 48 = .ok (.irem, 1) := by decide +kernel
theorem dX0_spread_49 : decode cX0_spread 49 = .ok (.aload_n 0, 1) := by decide +kernel
theorem dX0_spread_50 : decode cX0_spread 50 = .ok (.getfield 18, 3) := by decide +kernel
theorem dX0_spread_53 : decode cX0_spread 53 = .ok (.iload_n 3, 1) := by decide +kernel
theorem dX0_spread_54 : decode cX0_spread 54 = .ok (.iaload, 1) := by decide +kernel
theorem dX0_spread_55 : decode cX0_spread 55 = .ok (.bipush 6, 2) := by decide +kernel
theorem dX0_spread_57 : decode cX0_spread 57 = .ok (.irem, 1) := by decide +kernel
theorem dX0_spread_58 : decode cX0_spread 58 = .ok (.isub, 1) := by decide +kernel
theorem dX0_spread_59 : decode cX0_spread 59 = .ok (.invokestatic 89, 3) := by decide +kernel
theorem dX0_spread_62 : decode cX0_spread 62 = .ok (.iadd, 1) := by decide +kernel
theorem dX0_spread_63 : decode cX0_spread 63 = .ok (.istore_n 1, 1) := by decide +kernel
theorem dX0_spread_64 : decode cX0_spread 64 = .ok (.iload_n 1, 1) := by decide +kernel
theorem dX0_spread_65 : decode cX0_spread 65 = .ok (.aload_n 0, 1) := by decide +kernel
theorem dX0_spread_66 : decode cX0_spread 66 = .ok (.getfield 18, 3) := by decide +kernel
theorem dX0_spread_69 : decode cX0_spread 69 = .ok (.iload_n 2, 1) := by decide +kernel
theorem dX0_spread_70 : decode cX0_spread 70 = .ok (.iaload, 1) := by decide +kernel
theorem dX0_spread_71 : decode cX0_spread 71 = .ok (.bipush 6, 2) := by decide +kernel
theorem dX0_spread_73 : decode cX0_spread 73 = .ok (.idiv, 1) := by decide +kernel
theorem dX0_spread_74 : decode cX0_spread 74 = .ok (.aload_n 0, 1) := by decide +kernel
theorem dX0_spread_75 : decode cX0_spread 75 = .ok (.getfield 18, 3) := by decide +kernel
theorem dX0_spread_78 : decode cX0_spread 78 = .ok (.iload_n 3, 1) := by decide +kernel
theorem dX0_spread_79 : decode cX0_spread 79 = .ok (.iaload, 1) := by decide +kernel
theorem dX0_spread_80 : decode cX0_spread 80 = .ok (.bipush 6, 2) := by decide +kernel
theorem dX0_spread_82 : decode cX0_spread 82 = .ok (.idiv, 1) := by decide +kernel
theorem dX0_spread_83 : decode cX0_spread 83 = .ok (.isub, 1) := by decide +kernel
theorem dX0_spread_84 : decode cX0_spread 84 = .ok (.invokestatic 89, 3) := by decide +kernel
theorem dX0_spread_87 : decode cX0_spread 87 = .ok (.iadd, 1) := by decide +kernel
theorem dX0_spread_88 : decode cX0_spread 88 = .ok (.istore_n 1, 1) := by decide +kernel
theorem dX0_spread_89 : decode cX0_spread 89 = .ok (.iinc 3 1, 3) := by decide +kernel
theorem dX0_spread_92 : decode cX0_spread 92 = .ok (.goto (-78), 3) := by decide +kernel
theorem dX0_spread_95 : decode cX0_spread 95 = .ok (.iinc 2 1, 3) := by decide +kernel
theorem dX0_spread_98 : decode cX0_spread 98 = .ok (.goto (-94), 3) := by decide +kernel
theorem dX0_spread_101 : decode cX0_spread 101 = .ok (.iload_n 1, 1) := by decide +kernel
theorem dX0_spread_102 : decode cX0_spread 102 = .ok (.ireturn, 1) := by decide +kernel
abbrev cX0_kin : ByteArray := prog_2_method_16_code
abbrev mX0_kin : MethodName := { cls := "KinInTheHeap$Floor", name := "kin", desc := "(I)I" }
theorem mwX0_kin : MWV mX0_kin (.code mX0_kin cX0_kin 4 (some .int)) "KinInTheHeap$Floor" 1 := ⟨w379, w377, w378, w102, w102, by decide +kernel⟩
theorem dX0_kin_0 : decode cX0_kin 0 = .ok (.iconst 0, 1) := by decide +kernel
theorem dX0_kin_1 : decode cX0_kin 1 = .ok (.istore_n 2, 1) := by decide +kernel
theorem dX0_kin_2 : decode cX0_kin 2 = .ok (.iconst 0, 1) := by decide +kernel
theorem dX0_kin_3 : decode cX0_kin 3 = .ok (.istore_n 3, 1) := by decide +kernel
theorem dX0_kin_4 : decode cX0_kin 4 = .ok (.iload_n 3, 1) := by decide +kernel
theorem dX0_kin_5 : decode cX0_kin 5 = .ok (.aload_n 0, 1) := by decide +kernel
theorem dX0_kin_6 : decode cX0_kin 6 = .ok (.getfield 51, 3) := by decide +kernel
theorem dX0_kin_9 : decode cX0_kin 9 = .ok (.if_icmp .ge 27, 3) := by decide +kernel
theorem dX0_kin_12 : decode cX0_kin 12 = .ok (.aload_n 0, 1) := by decide +kernel
theorem dX0_kin_13 : decode cX0_kin 13 = .ok (.getfield 18, 3) := by decide +kernel
theorem dX0_kin_16 : decode cX0_kin 16 = .ok (.iload_n 3, 1) := by decide +kernel
theorem dX0_kin_17 : decode cX0_kin 17 = .ok (.iaload, 1) := by decide +kernel
theorem dX0_kin_18 : decode cX0_kin 18 = .ok (.aload_n 0, 1) := by decide +kernel
theorem dX0_kin_19 : decode cX0_kin 19 = .ok (.getfield 18, 3) := by decide +kernel
theorem dX0_kin_22 : decode cX0_kin 22 = .ok (.iload_n 1, 1) := by decide +kernel
theorem dX0_kin_23 : decode cX0_kin 23 = .ok (.iaload, 1) := by decide +kernel
theorem dX0_kin_24 : decode cX0_kin 24 = .ok (.if_icmp .ne 6, 3) := by decide +kernel
theorem dX0_kin_27 : decode cX0_kin 27 = .ok (.iinc 2 1, 3) := by decide +kernel
theorem dX0_kin_30 : decode cX0_kin 30 = .ok (.iinc 3 1, 3) := by decide +kernel
theorem dX0_kin_33 : decode cX0_kin 33 = .ok (.goto (-29), 3) := by decide +kernel
theorem dX0_kin_36 : decode cX0_kin 36 = .ok (.iload_n 2, 1) := by decide +kernel
theorem dX0_kin_37 : decode cX0_kin 37 = .ok (.ireturn, 1) := by decide +kernel
abbrev cX0_far : ByteArray := prog_2_method_17_code
abbrev mX0_far : MethodName := { cls := "KinInTheHeap$Floor", name := "far", desc := "(I)I" }
theorem mwX0_far : MWV mX0_far (.code mX0_far cX0_far 3 (some .int)) "KinInTheHeap$Floor" 1 := ⟨w371, w369, w370, w102, w102, by decide +kernel⟩
theorem dX0_far_0 : decode cX0_far 0 = .ok (.aload_n 0, 1) := by decide +kernel
theorem dX0_far_1 : decode cX0_far 1 = .ok (.iconst 0, 1) := by decide +kernel
theorem dX0_far_2 : decode cX0_far 2 = .ok (.iload_n 1, 1) := by decide +kernel
theorem dX0_far_3 : decode cX0_far 3 = .ok (.invokevirtual 92, 3) := by decide +kernel
theorem dX0_far_6 : decode cX0_far 6 = .ok (.invokestatic 95, 3) := by decide +kernel
theorem dX0_far_9 : decode cX0_far 9 = .ok (.istore_n 2, 1) := by decide +kernel
theorem dX0_far_10 : decode cX0_far 10 = .ok (.aload_n 0, 1) := by decide +kernel
theorem dX0_far_11 : decode cX0_far 11 = .ok (.getfield 9, 3) := by decide +kernel
theorem dX0_far_14 : decode cX0_far 14 = .ok (.iload_n 1, 1) := by decide +kernel
theorem dX0_far_15 : decode cX0_far 15 = .ok (.iaload, 1) := by decide +kernel
theorem dX0_far_16 : decode cX0_far 16 = .ok (.tableswitch 75 0 4 #[36, 38, 42, 49, 66], 36) := by decide +kernel
theorem dX0_far_52 : decode cX0_far 52 = .ok (.iload_n 2, 1) := by decide +kernel
theorem dX0_far_53 : decode cX0_far 53 = .ok (.ireturn, 1) := by decide +kernel
theorem dX0_far_54 : decode cX0_far 54 = .ok (.iload_n 2, 1) := by decide +kernel
theorem dX0_far_55 : decode cX0_far 55 = .ok (.iconst 2, 1) := by decide +kernel
theorem dX0_far_56 : decode cX0_far 56 = .ok (.idiv, 1) := by decide +kernel
theorem dX0_far_57 : decode cX0_far 57 = .ok (.ireturn, 1) := by decide +kernel
theorem dX0_far_58 : decode cX0_far 58 = .ok (.iload_n 2, 1) := by decide +kernel
theorem dX0_far_59 : decode cX0_far 59 = .ok (.iconst 1, 1) := by decide +kernel
theorem dX0_far_60 : decode cX0_far 60 = .ok (.iadd, 1) := by decide +kernel
theorem dX0_far_61 : decode cX0_far 61 = .ok (.invokestatic 95, 3) := by decide +kernel
theorem dX0_far_64 : decode cX0_far 64 = .ok (.ireturn, 1) := by decide +kernel
theorem dX0_far_65 : decode cX0_far 65 = .ok (.aload_n 0, 1) := by decide +kernel
theorem dX0_far_66 : decode cX0_far 66 = .ok (.iload_n 1, 1) := by decide +kernel
theorem dX0_far_67 : decode cX0_far 67 = .ok (.invokevirtual 80, 3) := by decide +kernel
theorem dX0_far_70 : decode cX0_far 70 = .ok (.iconst 1, 1) := by decide +kernel
theorem dX0_far_71 : decode cX0_far 71 = .ok (.if_icmp .ne 7, 3) := by decide +kernel
theorem dX0_far_74 : decode cX0_far 74 = .ok (.iconst 0, 1) := by decide +kernel
theorem dX0_far_75 : decode cX0_far 75 = .ok (.goto 6, 3) := by decide +kernel
theorem dX0_far_78 : decode cX0_far 78 = .ok (.iload_n 2, 1) := by decide +kernel
theorem dX0_far_79 : decode cX0_far 79 = .ok (.iconst 2, 1) := by decide +kernel
theorem dX0_far_80 : decode cX0_far 80 = .ok (.idiv, 1) := by decide +kernel
theorem dX0_far_81 : decode cX0_far 81 = .ok (.ireturn, 1) := by decide +kernel
theorem dX0_far_82 : decode cX0_far 82 = .ok (.iconst 2, 1) := by decide +kernel
theorem dX0_far_83 : decode cX0_far 83 = .ok (.iload_n 2, 1) := by decide +kernel
theorem dX0_far_84 : decode cX0_far 84 = .ok (.iconst 1, 1) := by decide +kernel
theorem dX0_far_85 : decode cX0_far 85 = .ok (.iadd, 1) := by decide +kernel
theorem dX0_far_86 : decode cX0_far 86 = .ok (.imul, 1) := by decide +kernel
theorem dX0_far_87 : decode cX0_far 87 = .ok (.invokestatic 95, 3) := by decide +kernel
theorem dX0_far_90 : decode cX0_far 90 = .ok (.ireturn, 1) := by decide +kernel
theorem dX0_far_91 : decode cX0_far 91 = .ok (.aload_n 0, 1) := by decide +kernel
theorem dX0_far_92 : decode cX0_far 92 = .ok (.getfield 21, 3) := by decide +kernel
theorem dX0_far_95 : decode cX0_far 95 = .ok (.iconst 5, 1) := by decide +kernel
theorem dX0_far_96 : decode cX0_far 96 = .ok (.if_icmp .le 12, 3) := by decide +kernel
theorem dX0_far_99 : decode cX0_far 99 = .ok (.aload_n 0, 1) := by decide +kernel
theorem dX0_far_100 : decode cX0_far 100 = .ok (.getfield 15, 3) := by decide +kernel
theorem dX0_far_103 : decode cX0_far 103 = .ok (.iload_n 1, 1) := by decide +kernel
theorem dX0_far_104 : decode cX0_far 104 = .ok (.iaload, 1) := by decide +kernel
theorem dX0_far_105 : decode cX0_far 105 = .ok (.goto 4, 3) := by decide +kernel
theorem dX0_far_108 : decode cX0_far 108 = .ok (.iconst 0, 1) := by decide +kernel
theorem dX0_far_109 : decode cX0_far 109 = .ok (.ireturn, 1) := by decide +kernel
abbrev cX0_isFree : ByteArray := prog_2_method_18_code
abbrev mX0_isFree : MethodName := { cls := "KinInTheHeap$Floor", name := "isFree", desc := "(I)Z" }
theorem mwX0_isFree : MWV mX0_isFree (.code mX0_isFree cX0_isFree 2 (some .boolean)) "KinInTheHeap$Floor" 1 := ⟨w396, w394, w395, w102, w102, by decide +kernel⟩
theorem dX0_isFree_0 : decode cX0_isFree 0 = .ok (.aload_n 0, 1) := by decide +kernel
theorem dX0_isFree_1 : decode cX0_isFree 1 = .ok (.getfield 9, 3) := by decide +kernel
theorem dX0_isFree_4 : decode cX0_isFree 4 = .ok (.iload_n 1, 1) := by decide +kernel
theorem dX0_isFree_5 : decode cX0_isFree 5 = .ok (.iaload, 1) := by decide +kernel
theorem dX0_isFree_6 : decode cX0_isFree 6 = .ok (.tableswitch 83 0 4 #[34, 49, 51, 53, 68], 34) := by decide +kernel
theorem dX0_isFree_40 : decode cX0_isFree 40 = .ok (.aload_n 0, 1) := by decide +kernel
theorem dX0_isFree_41 : decode cX0_isFree 41 = .ok (.iconst 1, 1) := by decide +kernel
theorem dX0_isFree_42 : decode cX0_isFree 42 = .ok (.iload_n 1, 1) := by decide +kernel
theorem dX0_isFree_43 : decode cX0_isFree 43 = .ok (.invokevirtual 92, 3) := by decide +kernel
theorem dX0_isFree_46 : decode cX0_isFree 46 = .ok (.ifCond .eq 7, 3) := by decide +kernel
theorem dX0_isFree_49 : decode cX0_isFree 49 = .ok (.iconst 1, 1) := by decide +kernel
theorem dX0_isFree_50 : decode cX0_isFree 50 = .ok (.goto 4, 3) := by decide +kernel
theorem dX0_isFree_53 : decode cX0_isFree 53 = .ok (.iconst 0, 1) := by decide +kernel
theorem dX0_isFree_54 : decode cX0_isFree 54 = .ok (.ireturn, 1) := by decide +kernel
theorem dX0_isFree_55 : decode cX0_isFree 55 = .ok (.iconst 0, 1) := by decide +kernel
theorem dX0_isFree_56 : decode cX0_isFree 56 = .ok (.ireturn, 1) := by decide +kernel
theorem dX0_isFree_57 : decode cX0_isFree 57 = .ok (.iconst 1, 1) := by decide +kernel
theorem dX0_isFree_58 : decode cX0_isFree 58 = .ok (.ireturn, 1) := by decide +kernel
theorem dX0_isFree_59 : decode cX0_isFree 59 = .ok (.aload_n 0, 1) := by decide +kernel
theorem dX0_isFree_60 : decode cX0_isFree 60 = .ok (.getfield 21, 3) := by decide +kernel
theorem dX0_isFree_63 : decode cX0_isFree 63 = .ok (.bipush 9, 2) := by decide +kernel
theorem dX0_isFree_65 : decode cX0_isFree 65 = .ok (.if_icmp .ne 7, 3) := by decide +kernel
theorem dX0_isFree_68 : decode cX0_isFree 68 = .ok (.iconst 1, 1) := by decide +kernel
theorem dX0_isFree_69 : decode cX0_isFree 69 = .ok (.goto 4, 3) := by decide +kernel
theorem dX0_isFree_72 : decode cX0_isFree 72 = .ok (.iconst 0, 1) := by decide +kernel
theorem dX0_isFree_73 : decode cX0_isFree 73 = .ok (.ireturn, 1) := by decide +kernel
theorem dX0_isFree_74 : decode cX0_isFree 74 = .ok (.aload_n 0, 1) := by decide +kernel
theorem dX0_isFree_75 : decode cX0_isFree 75 = .ok (.getfield 45, 3) := by decide +kernel
theorem dX0_isFree_78 : decode cX0_isFree 78 = .ok (.iconst 2, 1) := by decide +kernel
theorem dX0_isFree_79 : decode cX0_isFree 79 = .ok (.irem, 1) := by decide +kernel
theorem dX0_isFree_80 : decode cX0_isFree 80 = .ok (.ifCond .ne 7, 3) := by decide +kernel
theorem dX0_isFree_83 : decode cX0_isFree 83 = .ok (.iconst 1, 1) := by decide +kernel
theorem dX0_isFree_84 : decode cX0_isFree 84 = .ok (.goto 4, 3) := by decide +kernel
theorem dX0_isFree_87 : decode cX0_isFree 87 = .ok (.iconst 0, 1) := by decide +kernel
theorem dX0_isFree_88 : decode cX0_isFree 88 = .ok (.ireturn, 1) := by decide +kernel
theorem dX0_isFree_89 : decode cX0_isFree 89 = .ok (.aload_n 0, 1) := by decide +kernel
theorem dX0_isFree_90 : decode cX0_isFree 90 = .ok (.iconst 1, 1) := by decide +kernel
theorem dX0_isFree_91 : decode cX0_isFree 91 = .ok (.iload_n 1, 1) := by decide +kernel
theorem dX0_isFree_92 : decode cX0_isFree 92 = .ok (.invokevirtual 92, 3) := by decide +kernel
theorem dX0_isFree_95 : decode cX0_isFree 95 = .ok (.ifCond .ne 7, 3) := by decide +kernel
theorem dX0_isFree_98 : decode cX0_isFree 98 = .ok (.iconst 1, 1) := by decide +kernel
theorem dX0_isFree_99 : decode cX0_isFree 99 = .ok (.goto 4, 3) := by decide +kernel
theorem dX0_isFree_102 : decode cX0_isFree 102 = .ok (.iconst 0, 1) := by decide +kernel
theorem dX0_isFree_103 : decode cX0_isFree 103 = .ok (.ireturn, 1) := by decide +kernel
abbrev cX0_way : ByteArray := prog_2_method_19_code
abbrev mX0_way : MethodName := { cls := "KinInTheHeap$Floor", name := "way", desc := "(I)I" }
theorem mwX0_way : MWV mX0_way (.code mX0_way cX0_way 3 (some .int)) "KinInTheHeap$Floor" 1 := ⟨w400, w398, w399, w102, w102, by decide +kernel⟩
theorem dX0_way_0 : decode cX0_way 0 = .ok (.aload_n 0, 1) := by decide +kernel
theorem dX0_way_1 : decode cX0_way 1 = .ok (.iconst 2, 1) := by decide +kernel
theorem dX0_way_2 : decode cX0_way 2 = .ok (.iload_n 1, 1) := by decide +kernel
theorem dX0_way_3 : decode cX0_way 3 = .ok (.invokevirtual 92, 3) := by decide +kernel
theorem dX0_way_6 : decode cX0_way 6 = .ok (.iconst 5, 1) := by decide +kernel
theorem dX0_way_7 : decode cX0_way 7 = .ok (.invokestatic 98, 3) := by decide +kernel
theorem dX0_way_10 : decode cX0_way 10 = .ok (.istore_n 2, 1) := by decide +kernel
theorem dX0_way_11 : decode cX0_way 11 = .ok (.aload_n 0, 1) := by decide +kernel
theorem dX0_way_12 : decode cX0_way 12 = .ok (.getfield 9, 3) := by decide +kernel
theorem dX0_way_15 : decode cX0_way 15 = .ok (.iload_n 1, 1) := by decide +kernel
theorem dX0_way_16 : decode cX0_way 16 = .ok (.iaload, 1) := by decide +kernel
theorem dX0_way_17 : decode cX0_way 17 = .ok (.tableswitch 44 0 4 #[35, 37, 35, 37, 39], 35) := by decide +kernel
theorem dX0_way_52 : decode cX0_way 52 = .ok (.iload_n 2, 1) := by decide +kernel
theorem dX0_way_53 : decode cX0_way 53 = .ok (.ireturn, 1) := by decide +kernel
theorem dX0_way_54 : decode cX0_way 54 = .ok (.iconst 0, 1) := by decide +kernel
theorem dX0_way_55 : decode cX0_way 55 = .ok (.ireturn, 1) := by decide +kernel
theorem dX0_way_56 : decode cX0_way 56 = .ok (.iload_n 2, 1) := by decide +kernel
theorem dX0_way_57 : decode cX0_way 57 = .ok (.invokestatic 101, 3) := by decide +kernel
theorem dX0_way_60 : decode cX0_way 60 = .ok (.ireturn, 1) := by decide +kernel
theorem dX0_way_61 : decode cX0_way 61 = .ok (.aload_n 0, 1) := by decide +kernel
theorem dX0_way_62 : decode cX0_way 62 = .ok (.getfield 15, 3) := by decide +kernel
theorem dX0_way_65 : decode cX0_way 65 = .ok (.iload_n 1, 1) := by decide +kernel
theorem dX0_way_66 : decode cX0_way 66 = .ok (.iaload, 1) := by decide +kernel
theorem dX0_way_67 : decode cX0_way 67 = .ok (.iconst 4, 1) := by decide +kernel
theorem dX0_way_68 : decode cX0_way 68 = .ok (.if_icmp .le 7, 3) := by decide +kernel
theorem dX0_way_71 : decode cX0_way 71 = .ok (.iload_n 2, 1) := by decide +kernel
theorem dX0_way_72 : decode cX0_way 72 = .ok (.goto 4, 3) := by decide +kernel
theorem dX0_way_75 : decode cX0_way 75 = .ok (.iconst 0, 1) := by decide +kernel
theorem dX0_way_76 : decode cX0_way 76 = .ok (.ireturn, 1) := by decide +kernel
abbrev cX0_brush : ByteArray := prog_2_method_20_code
abbrev mX0_brush : MethodName := { cls := "KinInTheHeap$Floor", name := "brush", desc := "(I)I" }
theorem mwX0_brush : MWV mX0_brush (.code mX0_brush cX0_brush 4 (some .int)) "KinInTheHeap$Floor" 1 := ⟨w642, w640, w641, w102, w102, by decide +kernel⟩
theorem dX0_brush_0 : decode cX0_brush 0 = .ok (.iload_n 1, 1) := by decide +kernel
theorem dX0_brush_1 : decode cX0_brush 1 = .ok (.bipush 12, 2) := by decide +kernel
theorem dX0_brush_3 : decode cX0_brush 3 = .ok (.if_icmp .ge 7, 3) := by decide +kernel
theorem dX0_brush_6 : decode cX0_brush 6 = .ok (.iconst 1, 1) := by decide +kernel
theorem dX0_brush_7 : decode cX0_brush 7 = .ok (.goto 4, 3) := by decide +kernel
theorem dX0_brush_10 : decode cX0_brush 10 = .ok (.iconst 3, 1) := by decide +kernel
theorem dX0_brush_11 : decode cX0_brush 11 = .ok (.iload_n 1, 1) := by decide +kernel
theorem dX0_brush_12 : decode cX0_brush 12 = .ok (.iconst 2, 1) := by decide +kernel
theorem dX0_brush_13 : decode cX0_brush 13 = .ok (.irem, 1) := by decide +kernel
theorem dX0_brush_14 : decode cX0_brush 14 = .ok (.iadd, 1) := by decide +kernel
theorem dX0_brush_15 : decode cX0_brush 15 = .ok (.istore_n 2, 1) := by decide +kernel
theorem dX0_brush_16 : decode cX0_brush 16 = .ok (.iconst 0, 1) := by decide +kernel
theorem dX0_brush_17 : decode cX0_brush 17 = .ok (.istore_n 3, 1) := by decide +kernel
theorem dX0_brush_18 : decode cX0_brush 18 = .ok (.iload_n 3, 1) := by decide +kernel
theorem dX0_brush_19 : decode cX0_brush 19 = .ok (.aload_n 0, 1) := by decide +kernel
theorem dX0_brush_20 : decode cX0_brush 20 = .ok (.getfield 51, 3) := by decide +kernel
theorem dX0_brush_23 : decode cX0_brush 23 = .ok (.if_icmp .ge 77, 3) := by decide +kernel
theorem dX0_brush_26 : decode cX0_brush 26 = .ok (.aload_n 0, 1) := by decide +kernel
theorem dX0_brush_27 : decode cX0_brush 27 = .ok (.getfield 25, 3) := by decide +kernel
theorem dX0_brush_30 : decode cX0_brush 30 = .ok (.iload_n 3, 1) := by decide +kernel
theorem dX0_brush_31 : decode cX0_brush 31 = .ok (.aload_n 0, 1) := by decide +kernel
theorem dX0_brush_32 : decode cX0_brush 32 = .ok (.getfield 18, 3) := by decide +kernel
theorem dX0_brush_35 : decode cX0_brush 35 = .ok (.iload_n 3, 1) := by decide +kernel
theorem dX0_brush_36 : decode cX0_brush 36 = .ok (.iaload, 1) := by decide +kernel
theorem dX0_brush_37 : decode cX0_brush 37 = .ok (.iastore, 1) := by decide +kernel
theorem dX0_brush_38 : decode cX0_brush 38 = .ok (.aload_n 0, 1) := by decide +kernel
theorem dX0_brush_39 : decode cX0_brush 39 = .ok (.getfield 18, 3) := by decide +kernel
theorem dX0_brush_42 : decode cX0_brush 42 = .ok (.iload_n 3, 1) := by decide +kernel
theorem dX0_brush_43 : decode cX0_brush 43 = .ok (.iaload, 1) := by decide +kernel
theorem dX0_brush_44 : decode cX0_brush 44 = .ok (.iload_n 1, 1) := by decide +kernel
theorem dX0_brush_45 : decode cX0_brush 45 = .ok (.invokestatic 104, 3) := by decide +kernel
theorem dX0_brush_48 : decode cX0_brush 48 = .ok (.ifCond .eq 46, 3) := by decide +kernel
theorem dX0_brush_51 : decode cX0_brush 51 = .ok (.aload_n 0, 1) := by decide +kernel
theorem dX0_brush_52 : decode cX0_brush 52 = .ok (.aload_n 0, 1) := by decide +kernel
theorem dX0_brush_53 : decode cX0_brush 53 = .ok (.getfield 18, 3) := by decide +kernel
theorem dX0_brush_56 : decode cX0_brush 56 = .ok (.iload_n 3, 1) := by decide +kernel
theorem dX0_brush_57 : decode cX0_brush 57 = .ok (.iaload, 1) := by decide +kernel
theorem dX0_brush_58 : decode cX0_brush 58 = .ok (.invokevirtual 108, 3) := by decide +kernel
theorem dX0_brush_61 : decode cX0_brush 61 = .ok (.ifCond .eq 11, 3) := by decide +kernel
theorem dX0_brush_64 : decode cX0_brush 64 = .ok (.aload_n 0, 1) := by decide +kernel
theorem dX0_brush_65 : decode cX0_brush 65 = .ok (.iload_n 3, 1) := by decide +kernel
theorem dX0_brush_66 : decode cX0_brush 66 = .ok (.invokevirtual 111, 3) := by decide +kernel
theorem dX0_brush_69 : decode cX0_brush 69 = .ok (.ifCond .eq 25, 3) := by decide +kernel
theorem dX0_brush_72 : decode cX0_brush 72 = .ok (.aload_n 0, 1) := by decide +kernel
theorem dX0_brush_73 : decode cX0_brush 73 = .ok (.getfield 25, 3) := by decide +kernel
theorem dX0_brush_76 : decode cX0_brush 76 = .ok (.iload_n 3, 1) := by decide +kernel
theorem dX0_brush_77 : decode cX0_brush 77 = .ok (.aload_n 0, 1) := by decide +kernel
theorem dX0_brush_78 : decode cX0_brush 78 = .ok (.aload_n 0, 1) := by decide +kernel
theorem dX0_brush_79 : decode cX0_brush 79 = .ok (.getfield 18, 3) := by decide +kernel
theorem dX0_brush_82 : decode cX0_brush 82 = .ok (.iload_n 3, 1) := by decide +kernel
theorem dX0_brush_83 : decode cX0_brush 83 = .ok (.iaload, 1) := by decide +kernel
theorem dX0_brush_84 : decode cX0_brush 84 = .ok (.iload_n 2, 1) := by decide +kernel
theorem dX0_brush_85 : decode cX0_brush 85 = .ok (.aload_n 0, 1) := by decide +kernel
theorem dX0_brush_86 : decode cX0_brush 86 = .ok (.iload_n 3, 1) := by decide +kernel
theorem dX0_brush_87 : decode cX0_brush 87 = .ok (.invokevirtual 114, 3) := by decide +kernel
theorem dX0_brush_90 : decode cX0_brush 90 = .ok (.invokevirtual 117, 3) := by decide +kernel
theorem dX0_brush_93 : decode cX0_brush 93 = .ok (.iastore, 1) := by decide +kernel
theorem dX0_brush_94 : decode cX0_brush 94 = .ok (.iinc 3 1, 3) := by decide +kernel
theorem dX0_brush_97 : decode cX0_brush 97 = .ok (.goto (-79), 3) := by decide +kernel
theorem dX0_brush_100 : decode cX0_brush 100 = .ok (.aload_n 0, 1) := by decide +kernel
theorem dX0_brush_101 : decode cX0_brush 101 = .ok (.invokevirtual 121, 3) := by decide +kernel
theorem dX0_brush_104 : decode cX0_brush 104 = .ok (.ireturn, 1) := by decide +kernel
abbrev cX0_drift : ByteArray := prog_2_method_21_code
abbrev mX0_drift : MethodName := { cls := "KinInTheHeap$Floor", name := "drift", desc := "()I" }
theorem mwX0_drift : MWV mX0_drift (.code mX0_drift cX0_drift 2 (some .int)) "KinInTheHeap$Floor" 0 := ⟨w667, w665, w666, w102, w102, by decide +kernel⟩
theorem dX0_drift_0 : decode cX0_drift 0 = .ok (.iconst 0, 1) := by decide +kernel
theorem dX0_drift_1 : decode cX0_drift 1 = .ok (.istore_n 1, 1) := by decide +kernel
theorem dX0_drift_2 : decode cX0_drift 2 = .ok (.iload_n 1, 1) := by decide +kernel
theorem dX0_drift_3 : decode cX0_drift 3 = .ok (.aload_n 0, 1) := by decide +kernel
theorem dX0_drift_4 : decode cX0_drift 4 = .ok (.getfield 51, 3) := by decide +kernel
theorem dX0_drift_7 : decode cX0_drift 7 = .ok (.if_icmp .ge 72, 3) := by decide +kernel
theorem dX0_drift_10 : decode cX0_drift 10 = .ok (.aload_n 0, 1) := by decide +kernel
theorem dX0_drift_11 : decode cX0_drift 11 = .ok (.getfield 25, 3) := by decide +kernel
theorem dX0_drift_14 : decode cX0_drift 14 = .ok (.iload_n 1, 1) := by decide +kernel
theorem dX0_drift_15 : decode cX0_drift 15 = .ok (.aload_n 0, 1) := by decide +kernel
theorem dX0_drift_16 : decode cX0_drift 16 = .ok (.getfield 18, 3) := by decide +kernel
theorem dX0_drift_19 : decode cX0_drift 19 = .ok (.iload_n 1, 1) := by decide +kernel
theorem dX0_drift_20 : decode cX0_drift 20 = .ok (.iaload, 1) := by decide +kernel
theorem dX0_drift_21 : decode cX0_drift 21 = .ok (.iastore, 1) := by decide +kernel
theorem dX0_drift_22 : decode cX0_drift 22 = .ok (.aload_n 0, 1) := by decide +kernel
theorem dX0_drift_23 : decode cX0_drift 23 = .ok (.getfield 18, 3) := by decide +kernel
theorem dX0_drift_26 : decode cX0_drift 26 = .ok (.iload_n 1, 1) := by decide +kernel
theorem dX0_drift_27 : decode cX0_drift 27 = .ok (.iaload, 1) := by decide +kernel
theorem dX0_drift_28 : decode cX0_drift 28 = .ok (.iconst (-1), 1) := by decide +kernel
theorem dX0_drift_29 : decode cX0_drift 29 = .ok (.if_icmp .eq 44, 3) := by decide +kernel
theorem dX0_drift_32 : decode cX0_drift 32 = .ok (.aload_n 0, 1) := by decide +kernel
theorem dX0_drift_33 : decode cX0_drift 33 = .ok (.aload_n 0, 1) := by decide +kernel
theorem dX0_drift_34 : decode cX0_drift 34 = .ok (.getfield 18, 3) := by decide +kernel
theorem dX0_drift_37 : decode cX0_drift 37 = .ok (.iload_n 1, 1) := by decide +kernel
theorem dX0_drift_38 : decode cX0_drift 38 = .ok (.iaload, 1) := by decide +kernel
theorem dX0_drift_39 : decode cX0_drift 39 = .ok (.invokevirtual 108, 3) := by decide +kernel
theorem dX0_drift_42 : decode cX0_drift 42 = .ok (.ifCond .eq 11, 3) := by decide +kernel
theorem dX0_drift_45 : decode cX0_drift 45 = .ok (.aload_n 0, 1) := by decide +kernel
theorem dX0_drift_46 : decode cX0_drift 46 = .ok (.iload_n 1, 1) := by decide +kernel
theorem dX0_drift_47 : decode cX0_drift 47 = .ok (.invokevirtual 111, 3) := by decide +kernel
theorem dX0_drift_50 : decode cX0_drift 50 = .ok (.ifCond .eq 23, 3) := by decide +kernel
theorem dX0_drift_53 : decode cX0_drift 53 = .ok (.aload_n 0, 1) := by decide +kernel
theorem dX0_drift_54 : decode cX0_drift 54 = .ok (.getfield 25, 3) := by decide +kernel
theorem dX0_drift_57 : decode cX0_drift 57 = .ok (.iload_n 1, 1) := by decide +kernel
theorem dX0_drift_58 : decode cX0_drift 58 = .ok (.aload_n 0, 1) := by decide +kernel
theorem dX0_drift_59 : decode cX0_drift 59 = .ok (.getfield 18, 3) := by decide +kernel
theorem dX0_drift_62 : decode cX0_drift 62 = .ok (.iload_n 1, 1) := by decide +kernel
theorem dX0_drift_63 : decode cX0_drift 63 = .ok (.iaload, 1) := by decide +kernel
theorem dX0_drift_64 : decode cX0_drift 64 = .ok (.aload_n 0, 1) := by decide +kernel
theorem dX0_drift_65 : decode cX0_drift 65 = .ok (.iload_n 1, 1) := by decide +kernel
theorem dX0_drift_66 : decode cX0_drift 66 = .ok (.invokevirtual 125, 3) := by decide +kernel
theorem dX0_drift_69 : decode cX0_drift 69 = .ok (.invokestatic 128, 3) := by decide +kernel
theorem dX0_drift_72 : decode cX0_drift 72 = .ok (.iastore, 1) := by decide +kernel
theorem dX0_drift_73 : decode cX0_drift 73 = .ok (.iinc 1 1, 3) := by decide +kernel
theorem dX0_drift_76 : decode cX0_drift 76 = .ok (.goto (-74), 3) := by decide +kernel
theorem dX0_drift_79 : decode cX0_drift 79 = .ok (.aload_n 0, 1) := by decide +kernel
theorem dX0_drift_80 : decode cX0_drift 80 = .ok (.dup, 1) := by decide +kernel
theorem dX0_drift_81 : decode cX0_drift 81 = .ok (.getfield 45, 3) := by decide +kernel
theorem dX0_drift_84 : decode cX0_drift 84 = .ok (.iconst 1, 1) := by decide +kernel
theorem dX0_drift_85 : decode cX0_drift 85 = .ok (.iadd, 1) := by decide +kernel
theorem dX0_drift_86 : decode cX0_drift 86 = .ok (.putfield 45, 3) := by decide +kernel
theorem dX0_drift_89 : decode cX0_drift 89 = .ok (.aload_n 0, 1) := by decide +kernel
theorem dX0_drift_90 : decode cX0_drift 90 = .ok (.invokevirtual 121, 3) := by decide +kernel
theorem dX0_drift_93 : decode cX0_drift 93 = .ok (.ireturn, 1) := by decide +kernel
abbrev cX0_swept : ByteArray := prog_2_method_22_code
abbrev mX0_swept : MethodName := { cls := "KinInTheHeap$Floor", name := "swept", desc := "(III)I" }
theorem mwX0_swept : MWV mX0_swept (.code mX0_swept cX0_swept 6 (some .int)) "KinInTheHeap$Floor" 3 := ⟨w652, w651, w26, w102, w102, by decide +kernel⟩
theorem dX0_swept_0 : decode cX0_swept 0 = .ok (.iload_n 1, 1) := by decide +kernel
theorem dX0_swept_1 : decode cX0_swept 1 = .ok (.istore 4, 2) := by decide +kernel
theorem dX0_swept_3 : decode cX0_swept 3 = .ok (.iconst 0, 1) := by decide +kernel
theorem dX0_swept_4 : decode cX0_swept 4 = .ok (.istore 5, 2) := by decide +kernel
theorem dX0_swept_6 : decode cX0_swept 6 = .ok (.iload 5, 2) := by decide +kernel
theorem dX0_swept_8 : decode cX0_swept 8 = .ok (.iload_n 3, 1) := by decide +kernel
theorem dX0_swept_9 : decode cX0_swept 9 = .ok (.if_icmp .ge 35, 3) := by decide +kernel
theorem dX0_swept_12 : decode cX0_swept 12 = .ok (.iload 4, 2) := by decide +kernel
theorem dX0_swept_14 : decode cX0_swept 14 = .ok (.iload_n 2, 1) := by decide +kernel
theorem dX0_swept_15 : decode cX0_swept 15 = .ok (.invokestatic 128, 3) := by decide +kernel
theorem dX0_swept_18 : decode cX0_swept 18 = .ok (.istore 4, 2) := by decide +kernel
theorem dX0_swept_20 : decode cX0_swept 20 = .ok (.iload 4, 2) := by decide +kernel
theorem dX0_swept_22 : decode cX0_swept 22 = .ok (.iconst (-1), 1) := by decide +kernel
theorem dX0_swept_23 : decode cX0_swept 23 = .ok (.if_icmp .eq 12, 3) := by decide +kernel
theorem dX0_swept_26 : decode cX0_swept 26 = .ok (.aload_n 0, 1) := by decide +kernel
theorem dX0_swept_27 : decode cX0_swept 27 = .ok (.iload 4, 2) := by decide +kernel
theorem dX0_swept_29 : decode cX0_swept 29 = .ok (.invokevirtual 108, 3) := by decide +kernel
theorem dX0_swept_32 : decode cX0_swept 32 = .ok (.ifCond .eq 6, 3) := by decide +kernel
theorem dX0_swept_35 : decode cX0_swept 35 = .ok (.iload 4, 2) := by decide +kernel
theorem dX0_swept_37 : decode cX0_swept 37 = .ok (.ireturn, 1) := by decide +kernel
theorem dX0_swept_38 : decode cX0_swept 38 = .ok (.iinc 5 1, 3) := by decide +kernel
theorem dX0_swept_41 : decode cX0_swept 41 = .ok (.goto (-35), 3) := by decide +kernel
theorem dX0_swept_44 : decode cX0_swept 44 = .ok (.iload 4, 2) := by decide +kernel
theorem dX0_swept_46 : decode cX0_swept 46 = .ok (.ireturn, 1) := by decide +kernel
abbrev cX0_settle : ByteArray := prog_2_method_23_code
abbrev mX0_settle : MethodName := { cls := "KinInTheHeap$Floor", name := "settle", desc := "()I" }
theorem mwX0_settle : MWV mX0_settle (.code mX0_settle cX0_settle 3 (some .int)) "KinInTheHeap$Floor" 0 := ⟨w659, w658, w27, w102, w102, by decide +kernel⟩
theorem dX0_settle_0 : decode cX0_settle 0 = .ok (.iconst 0, 1) := by decide +kernel
theorem dX0_settle_1 : decode cX0_settle 1 = .ok (.istore_n 1, 1) := by decide +kernel
theorem dX0_settle_2 : decode cX0_settle 2 = .ok (.iconst 0, 1) := by decide +kernel
theorem dX0_settle_3 : decode cX0_settle 3 = .ok (.istore_n 2, 1) := by decide +kernel
theorem dX0_settle_4 : decode cX0_settle 4 = .ok (.iload_n 2, 1) := by decide +kernel
theorem dX0_settle_5 : decode cX0_settle 5 = .ok (.aload_n 0, 1) := by decide +kernel
theorem dX0_settle_6 : decode cX0_settle 6 = .ok (.getfield 51, 3) := by decide +kernel
theorem dX0_settle_9 : decode cX0_settle 9 = .ok (.if_icmp .ge 44, 3) := by decide +kernel
theorem dX0_settle_12 : decode cX0_settle 12 = .ok (.aload_n 0, 1) := by decide +kernel
theorem dX0_settle_13 : decode cX0_settle 13 = .ok (.getfield 18, 3) := by decide +kernel
theorem dX0_settle_16 : decode cX0_settle 16 = .ok (.iload_n 2, 1) := by decide +kernel
theorem dX0_settle_17 : decode cX0_settle 17 = .ok (.iaload, 1) := by decide +kernel
theorem dX0_settle_18 : decode cX0_settle 18 = .ok (.iconst (-1), 1) := by decide +kernel
theorem dX0_settle_19 : decode cX0_settle 19 = .ok (.if_icmp .eq 16, 3) := by decide +kernel
theorem dX0_settle_22 : decode cX0_settle 22 = .ok (.aload_n 0, 1) := by decide +kernel
theorem dX0_settle_23 : decode cX0_settle 23 = .ok (.getfield 25, 3) := by decide +kernel
theorem dX0_settle_26 : decode cX0_settle 26 = .ok (.iload_n 2, 1) := by decide +kernel
theorem dX0_settle_27 : decode cX0_settle 27 = .ok (.iaload, 1) := by decide +kernel
theorem dX0_settle_28 : decode cX0_settle 28 = .ok (.iconst (-1), 1) := by decide +kernel
theorem dX0_settle_29 : decode cX0_settle 29 = .ok (.if_icmp .ne 6, 3) := by decide +kernel
theorem dX0_settle_32 : decode cX0_settle 32 = .ok (.iinc 1 1, 3) := by decide +kernel
theorem dX0_settle_35 : decode cX0_settle 35 = .ok (.aload_n 0, 1) := by decide +kernel
theorem dX0_settle_36 : decode cX0_settle 36 = .ok (.getfield 18, 3) := by decide +kernel
theorem dX0_settle_39 : decode cX0_settle 39 = .ok (.iload_n 2, 1) := by decide +kernel
theorem dX0_settle_40 : decode cX0_settle 40 = .ok (.aload_n 0, 1) := by decide +kernel
theorem dX0_settle_41 : decode cX0_settle 41 = .ok (.getfield 25, 3) := by decide +kernel
theorem dX0_settle_44 : decode cX0_settle 44 = .ok (.iload_n 2, 1) := by decide +kernel
theorem dX0_settle_45 : decode cX0_settle 45 = .ok (.iaload, 1) := by decide +kernel
theorem dX0_settle_46 : decode cX0_settle 46 = .ok (.iastore, 1) := by decide +kernel
theorem dX0_settle_47 : decode cX0_settle 47 = .ok (.iinc 2 1, 3) := by decide +kernel
theorem dX0_settle_50 : decode cX0_settle 50 = .ok (.goto (-46), 3) := by decide +kernel
theorem dX0_settle_53 : decode cX0_settle 53 = .ok (.iload_n 1, 1) := by decide +kernel
theorem dX0_settle_54 : decode cX0_settle 54 = .ok (.ireturn, 1) := by decide +kernel
abbrev cX0_telling : ByteArray := prog_2_method_24_code
abbrev mX0_telling : MethodName := { cls := "KinInTheHeap$Floor", name := "telling", desc := "(II)I" }
theorem mwX0_telling : MWV mX0_telling (.code mX0_telling cX0_telling 3 (some .int)) "KinInTheHeap$Floor" 2 := ⟨w375, w374, w8, w102, w102, by decide +kernel⟩
theorem dX0_telling_0 : decode cX0_telling 0 = .ok (.aload_n 0, 1) := by decide +kernel
theorem dX0_telling_1 : decode cX0_telling 1 = .ok (.getfield 48, 3) := by decide +kernel
theorem dX0_telling_4 : decode cX0_telling 4 = .ok (.iconst 0, 1) := by decide +kernel
theorem dX0_telling_5 : decode cX0_telling 5 = .ok (.iconst 5, 1) := by decide +kernel
theorem dX0_telling_6 : decode cX0_telling 6 = .ok (.invokestatic 54, 3) := by decide +kernel
theorem dX0_telling_9 : decode cX0_telling 9 = .ok (.ifCond .ne 5, 3) := by decide +kernel
theorem dX0_telling_12 : decode cX0_telling 12 = .ok (.iconst 0, 1) := by decide +kernel
theorem dX0_telling_13 : decode cX0_telling 13 = .ok (.ireturn, 1) := by decide +kernel
theorem dX0_telling_14 : decode cX0_telling 14 = .ok (.aload_n 0, 1) := by decide +kernel
theorem dX0_telling_15 : decode cX0_telling 15 = .ok (.getfield 28, 3) := by decide +kernel
theorem dX0_telling_18 : decode cX0_telling 18 = .ok (.iconst 0, 1) := by decide +kernel
theorem dX0_telling_19 : decode cX0_telling 19 = .ok (.aload_n 0, 1) := by decide +kernel
theorem dX0_telling_20 : decode cX0_telling 20 = .ok (.getfield 21, 3) := by decide +kernel
theorem dX0_telling_23 : decode cX0_telling 23 = .ok (.iastore, 1) := by decide +kernel
theorem dX0_telling_24 : decode cX0_telling 24 = .ok (.aload_n 0, 1) := by decide +kernel
theorem dX0_telling_25 : decode cX0_telling 25 = .ok (.getfield 28, 3) := by decide +kernel
theorem dX0_telling_28 : decode cX0_telling 28 = .ok (.iconst 1, 1) := by decide +kernel
theorem dX0_telling_29 : decode cX0_telling 29 = .ok (.aload_n 0, 1) := by decide +kernel
theorem dX0_telling_30 : decode cX0_telling 30 = .ok (.getfield 15, 3) := by decide +kernel
theorem dX0_telling_33 : decode cX0_telling 33 = .ok (.iload_n 2, 1) := by decide +kernel
theorem dX0_telling_34 : decode cX0_telling 34 = .ok (.iaload, 1) := by decide +kernel
theorem dX0_telling_35 : decode cX0_telling 35 = .ok (.iastore, 1) := by decide +kernel
theorem dX0_telling_36 : decode cX0_telling 36 = .ok (.aload_n 0, 1) := by decide +kernel
theorem dX0_telling_37 : decode cX0_telling 37 = .ok (.getfield 28, 3) := by decide +kernel
theorem dX0_telling_40 : decode cX0_telling 40 = .ok (.iconst 2, 1) := by decide +kernel
theorem dX0_telling_41 : decode cX0_telling 41 = .ok (.aload_n 0, 1) := by decide +kernel
theorem dX0_telling_42 : decode cX0_telling 42 = .ok (.getfield 18, 3) := by decide +kernel
theorem dX0_telling_45 : decode cX0_telling 45 = .ok (.iload_n 2, 1) := by decide +kernel
theorem dX0_telling_46 : decode cX0_telling 46 = .ok (.iaload, 1) := by decide +kernel
theorem dX0_telling_47 : decode cX0_telling 47 = .ok (.bipush 6, 2) := by decide +kernel
theorem dX0_telling_49 : decode cX0_telling 49 = .ok (.idiv, 1) := by decide +kernel
theorem dX0_telling_50 : decode cX0_telling 50 = .ok (.iastore, 1) := by decide +kernel
theorem dX0_telling_51 : decode cX0_telling 51 = .ok (.aload_n 0, 1) := by decide +kernel
theorem dX0_telling_52 : decode cX0_telling 52 = .ok (.getfield 28, 3) := by decide +kernel
theorem dX0_telling_55 : decode cX0_telling 55 = .ok (.iconst 3, 1) := by decide +kernel
theorem dX0_telling_56 : decode cX0_telling 56 = .ok (.aload_n 0, 1) := by decide +kernel
theorem dX0_telling_57 : decode cX0_telling 57 = .ok (.getfield 18, 3) := by decide +kernel
theorem dX0_telling_60 : decode cX0_telling 60 = .ok (.iload_n 2, 1) := by decide +kernel
theorem dX0_telling_61 : decode cX0_telling 61 = .ok (.iaload, 1) := by decide +kernel
theorem dX0_telling_62 : decode cX0_telling 62 = .ok (.bipush 6, 2) := by decide +kernel
theorem dX0_telling_64 : decode cX0_telling 64 = .ok (.irem, 1) := by decide +kernel
theorem dX0_telling_65 : decode cX0_telling 65 = .ok (.iastore, 1) := by decide +kernel
theorem dX0_telling_66 : decode cX0_telling 66 = .ok (.aload_n 0, 1) := by decide +kernel
theorem dX0_telling_67 : decode cX0_telling 67 = .ok (.getfield 28, 3) := by decide +kernel
theorem dX0_telling_70 : decode cX0_telling 70 = .ok (.iconst 4, 1) := by decide +kernel
theorem dX0_telling_71 : decode cX0_telling 71 = .ok (.aload_n 0, 1) := by decide +kernel
theorem dX0_telling_72 : decode cX0_telling 72 = .ok (.iload_n 2, 1) := by decide +kernel
theorem dX0_telling_73 : decode cX0_telling 73 = .ok (.invokevirtual 80, 3) := by decide +kernel
theorem dX0_telling_76 : decode cX0_telling 76 = .ok (.iastore, 1) := by decide +kernel
theorem dX0_telling_77 : decode cX0_telling 77 = .ok (.aload_n 0, 1) := by decide +kernel
theorem dX0_telling_78 : decode cX0_telling 78 = .ok (.getfield 28, 3) := by decide +kernel
theorem dX0_telling_81 : decode cX0_telling 81 = .ok (.iconst 5, 1) := by decide +kernel
theorem dX0_telling_82 : decode cX0_telling 82 = .ok (.aload_n 0, 1) := by decide +kernel
theorem dX0_telling_83 : decode cX0_telling 83 = .ok (.getfield 45, 3) := by decide +kernel
theorem dX0_telling_86 : decode cX0_telling 86 = .ok (.iastore, 1) := by decide +kernel
theorem dX0_telling_87 : decode cX0_telling 87 = .ok (.aload_n 0, 1) := by decide +kernel
theorem dX0_telling_88 : decode cX0_telling 88 = .ok (.getfield 31, 3) := by decide +kernel
theorem dX0_telling_91 : decode cX0_telling 91 = .ok (.aload_n 0, 1) := by decide +kernel
theorem dX0_telling_92 : decode cX0_telling 92 = .ok (.getfield 48, 3) := by decide +kernel
theorem dX0_telling_95 : decode cX0_telling 95 = .ok (.aaload, 1) := by decide +kernel
theorem dX0_telling_96 : decode cX0_telling 96 = .ok (.iload_n 1, 1) := by decide +kernel
theorem dX0_telling_97 : decode cX0_telling 97 = .ok (.aload_n 0, 1) := by decide +kernel
theorem dX0_telling_98 : decode cX0_telling 98 = .ok (.getfield 28, 3) := by decide +kernel
theorem dX0_telling_101 : decode cX0_telling 101 = .ok (.invokevirtual 131, 3) := by decide +kernel
theorem dX0_telling_104 : decode cX0_telling 104 = .ok (.ireturn, 1) := by decide +kernel
abbrev cX0_bounded : ByteArray := prog_2_method_25_code
abbrev mX0_bounded : MethodName := { cls := "KinInTheHeap$Floor", name := "bounded", desc := "(I)I" }
theorem mwX0_bounded : MWS mX0_bounded (.code mX0_bounded cX0_bounded 1 (some .int)) 1 := ⟨w386, w385, w102, by decide +kernel⟩
theorem dX0_bounded_0 : decode cX0_bounded 0 = .ok (.iconst 0, 1) := by decide +kernel
theorem dX0_bounded_1 : decode cX0_bounded 1 = .ok (.bipush 9, 2) := by decide +kernel
theorem dX0_bounded_3 : decode cX0_bounded 3 = .ok (.iload_n 0, 1) := by decide +kernel
theorem dX0_bounded_4 : decode cX0_bounded 4 = .ok (.invokestatic 137, 3) := by decide +kernel
theorem dX0_bounded_7 : decode cX0_bounded 7 = .ok (.invokestatic 83, 3) := by decide +kernel
theorem dX0_bounded_10 : decode cX0_bounded 10 = .ok (.ireturn, 1) := by decide +kernel
abbrev cX0_otherWay : ByteArray := prog_2_method_26_code
abbrev mX0_otherWay : MethodName := { cls := "KinInTheHeap$Floor", name := "otherWay", desc := "(I)I" }
theorem mwX0_otherWay : MWS mX0_otherWay (.code mX0_otherWay cX0_otherWay 1 (some .int)) 1 := ⟨w406, w405, w102, by decide +kernel⟩
theorem dX0_otherWay_0 : decode cX0_otherWay 0 = .ok (.iload_n 0, 1) := by decide +kernel
theorem dX0_otherWay_1 : decode cX0_otherWay 1 = .ok (.ifCond .ne 5, 3) := by decide +kernel
theorem dX0_otherWay_4 : decode cX0_otherWay 4 = .ok (.iconst 0, 1) := by decide +kernel
theorem dX0_otherWay_5 : decode cX0_otherWay 5 = .ok (.ireturn, 1) := by decide +kernel
theorem dX0_otherWay_6 : decode cX0_otherWay 6 = .ok (.iload_n 0, 1) := by decide +kernel
theorem dX0_otherWay_7 : decode cX0_otherWay 7 = .ok (.iconst 2, 1) := by decide +kernel
theorem dX0_otherWay_8 : decode cX0_otherWay 8 = .ok (.irem, 1) := by decide +kernel
theorem dX0_otherWay_9 : decode cX0_otherWay 9 = .ok (.iconst 1, 1) := by decide +kernel
theorem dX0_otherWay_10 : decode cX0_otherWay 10 = .ok (.if_icmp .ne 9, 3) := by decide +kernel
theorem dX0_otherWay_13 : decode cX0_otherWay 13 = .ok (.iload_n 0, 1) := by decide +kernel
theorem dX0_otherWay_14 : decode cX0_otherWay 14 = .ok (.iconst 1, 1) := by decide +kernel
theorem dX0_otherWay_15 : decode cX0_otherWay 15 = .ok (.iadd, 1) := by decide +kernel
theorem dX0_otherWay_16 : decode cX0_otherWay 16 = .ok (.goto 6, 3) := by decide +kernel
theorem dX0_otherWay_19 : decode cX0_otherWay 19 = .ok (.iload_n 0, 1) := by decide +kernel
theorem dX0_otherWay_20 : decode cX0_otherWay 20 = .ok (.iconst 1, 1) := by decide +kernel
theorem dX0_otherWay_21 : decode cX0_otherWay 21 = .ok (.isub, 1) := by decide +kernel
theorem dX0_otherWay_22 : decode cX0_otherWay 22 = .ok (.ireturn, 1) := by decide +kernel
abbrev cX0_isInLine : ByteArray := prog_2_method_27_code
abbrev mX0_isInLine : MethodName := { cls := "KinInTheHeap$Floor", name := "isInLine", desc := "(II)Z" }
theorem mwX0_isInLine : MWS mX0_isInLine (.code mX0_isInLine cX0_isInLine 2 (some .boolean)) 2 := ⟨w645, w644, w102, by decide +kernel⟩
theorem dX0_isInLine_0 : decode cX0_isInLine 0 = .ok (.iload_n 0, 1) := by decide +kernel
theorem dX0_isInLine_1 : decode cX0_isInLine 1 = .ok (.iconst (-1), 1) := by decide +kernel
theorem dX0_isInLine_2 : decode cX0_isInLine 2 = .ok (.if_icmp .ne 5, 3) := by decide +kernel
theorem dX0_isInLine_5 : decode cX0_isInLine 5 = .ok (.iconst 0, 1) := by decide +kernel
theorem dX0_isInLine_6 : decode cX0_isInLine 6 = .ok (.ireturn, 1) := by decide +kernel
theorem dX0_isInLine_7 : decode cX0_isInLine 7 = .ok (.iload_n 1, 1) := by decide +kernel
theorem dX0_isInLine_8 : decode cX0_isInLine 8 = .ok (.bipush 12, 2) := by decide +kernel
theorem dX0_isInLine_10 : decode cX0_isInLine 10 = .ok (.if_icmp .ge 21, 3) := by decide +kernel
theorem dX0_isInLine_13 : decode cX0_isInLine 13 = .ok (.iload_n 0, 1) := by decide +kernel
theorem dX0_isInLine_14 : decode cX0_isInLine 14 = .ok (.bipush 6, 2) := by decide +kernel
theorem dX0_isInLine_16 : decode cX0_isInLine 16 = .ok (.idiv, 1) := by decide +kernel
theorem dX0_isInLine_17 : decode cX0_isInLine 17 = .ok (.iload_n 1, 1) := by decide +kernel
theorem dX0_isInLine_18 : decode cX0_isInLine 18 = .ok (.iconst 2, 1) := by decide +kernel
theorem dX0_isInLine_19 : decode cX0_isInLine 19 = .ok (.idiv, 1) := by decide +kernel
theorem dX0_isInLine_20 : decode cX0_isInLine 20 = .ok (.if_icmp .ne 7, 3) := by decide +kernel
theorem dX0_isInLine_23 : decode cX0_isInLine 23 = .ok (.iconst 1, 1) := by decide +kernel
theorem dX0_isInLine_24 : decode cX0_isInLine 24 = .ok (.goto 25, 3) := by decide +kernel
theorem dX0_isInLine_27 : decode cX0_isInLine 27 = .ok (.iconst 0, 1) := by decide +kernel
theorem dX0_isInLine_28 : decode cX0_isInLine 28 = .ok (.goto 21, 3) := by decide +kernel
theorem dX0_isInLine_31 : decode cX0_isInLine 31 = .ok (.iload_n 0, 1) := by decide +kernel
theorem dX0_isInLine_32 : decode cX0_isInLine 32 = .ok (.bipush 6, 2) := by decide +kernel
theorem dX0_isInLine_34 : decode cX0_isInLine 34 = .ok (.irem, 1) := by decide +kernel
theorem dX0_isInLine_35 : decode cX0_isInLine 35 = .ok (.iload_n 1, 1) := by decide +kernel
theorem dX0_isInLine_36 : decode cX0_isInLine 36 = .ok (.bipush 12, 2) := by decide +kernel
theorem dX0_isInLine_38 : decode cX0_isInLine 38 = .ok (.isub, 1) := by decide +kernel
theorem dX0_isInLine_39 : decode cX0_isInLine 39 = .ok (.iconst 2, 1) := by decide +kernel
theorem dX0_isInLine_40 : decode cX0_isInLine 40 = .ok (.idiv, 1) := by decide +kernel
theorem dX0_isInLine_41 : decode cX0_isInLine 41 = .ok (.if_icmp .ne 7, 3) := by decide +kernel
theorem dX0_isInLine_44 : decode cX0_isInLine 44 = .ok (.iconst 1, 1) := by decide +kernel
theorem dX0_isInLine_45 : decode cX0_isInLine 45 = .ok (.goto 4, 3) := by decide +kernel
theorem dX0_isInLine_48 : decode cX0_isInLine 48 = .ok (.iconst 0, 1) := by decide +kernel
theorem dX0_isInLine_49 : decode cX0_isInLine 49 = .ok (.ireturn, 1) := by decide +kernel
abbrev cX0_stepped : ByteArray := prog_2_method_28_code
abbrev mX0_stepped : MethodName := { cls := "KinInTheHeap$Floor", name := "stepped", desc := "(II)I" }
theorem mwX0_stepped : MWS mX0_stepped (.code mX0_stepped cX0_stepped 2 (some .int)) 2 := ⟨w655, w654, w102, by decide +kernel⟩
theorem dX0_stepped_0 : decode cX0_stepped 0 = .ok (.iload_n 1, 1) := by decide +kernel
theorem dX0_stepped_1 : decode cX0_stepped 1 = .ok (.tableswitch 95 1 4 #[31, 47, 62, 79], 31) := by decide +kernel
theorem dX0_stepped_32 : decode cX0_stepped 32 = .ok (.iload_n 0, 1) := by decide +kernel
theorem dX0_stepped_33 : decode cX0_stepped 33 = .ok (.bipush 6, 2) := by decide +kernel
theorem dX0_stepped_35 : decode cX0_stepped 35 = .ok (.irem, 1) := by decide +kernel
theorem dX0_stepped_36 : decode cX0_stepped 36 = .ok (.iconst 5, 1) := by decide +kernel
theorem dX0_stepped_37 : decode cX0_stepped 37 = .ok (.if_icmp .ne 7, 3) := by decide +kernel
theorem dX0_stepped_40 : decode cX0_stepped 40 = .ok (.iconst (-1), 1) := by decide +kernel
theorem dX0_stepped_41 : decode cX0_stepped 41 = .ok (.goto 6, 3) := by decide +kernel
theorem dX0_stepped_44 : decode cX0_stepped 44 = .ok (.iload_n 0, 1) := by decide +kernel
theorem dX0_stepped_45 : decode cX0_stepped 45 = .ok (.iconst 1, 1) := by decide +kernel
theorem dX0_stepped_46 : decode cX0_stepped 46 = .ok (.iadd, 1) := by decide +kernel
theorem dX0_stepped_47 : decode cX0_stepped 47 = .ok (.ireturn, 1) := by decide +kernel
theorem dX0_stepped_48 : decode cX0_stepped 48 = .ok (.iload_n 0, 1) := by decide +kernel
theorem dX0_stepped_49 : decode cX0_stepped 49 = .ok (.bipush 6, 2) := by decide +kernel
theorem dX0_stepped_51 : decode cX0_stepped 51 = .ok (.irem, 1) := by decide +kernel
theorem dX0_stepped_52 : decode cX0_stepped 52 = .ok (.ifCond .ne 7, 3) := by decide +kernel
theorem dX0_stepped_55 : decode cX0_stepped 55 = .ok (.iconst (-1), 1) := by decide +kernel
theorem dX0_stepped_56 : decode cX0_stepped 56 = .ok (.goto 6, 3) := by decide +kernel
theorem dX0_stepped_59 : decode cX0_stepped 59 = .ok (.iload_n 0, 1) := by decide +kernel
theorem dX0_stepped_60 : decode cX0_stepped 60 = .ok (.iconst 1, 1) := by decide +kernel
theorem dX0_stepped_61 : decode cX0_stepped 61 = .ok (.isub, 1) := by decide +kernel
theorem dX0_stepped_62 : decode cX0_stepped 62 = .ok (.ireturn, 1) := by decide +kernel
theorem dX0_stepped_63 : decode cX0_stepped 63 = .ok (.iload_n 0, 1) := by decide +kernel
theorem dX0_stepped_64 : decode cX0_stepped 64 = .ok (.bipush 6, 2) := by decide +kernel
theorem dX0_stepped_66 : decode cX0_stepped 66 = .ok (.idiv, 1) := by decide +kernel
theorem dX0_stepped_67 : decode cX0_stepped 67 = .ok (.iconst 5, 1) := by decide +kernel
theorem dX0_stepped_68 : decode cX0_stepped 68 = .ok (.if_icmp .ne 7, 3) := by decide +kernel
theorem dX0_stepped_71 : decode cX0_stepped 71 = .ok (.iconst (-1), 1) := by decide +kernel
theorem dX0_stepped_72 : decode cX0_stepped 72 = .ok (.goto 7, 3) := by decide +kernel
theorem dX0_stepped_75 : decode cX0_stepped 75 = .ok (.iload_n 0, 1) := by decide +kernel
theorem dX0_stepped_76 : decode cX0_stepped 76 = .ok (.bipush 6, 2) := by decide +kernel
theorem dX0_stepped_78 : decode cX0_stepped 78 = .ok (.iadd, 1) := by decide +kernel
theorem dX0_stepped_79 : decode cX0_stepped 79 = .ok (.ireturn, 1) := by decide +kernel
theorem dX0_stepped_80 : decode cX0_stepped 80 = .ok (.iload_n 0, 1) := by decide +kernel
theorem dX0_stepped_81 : decode cX0_stepped 81 = .ok (.bipush 6, 2) := by decide +kernel
theorem dX0_stepped_83 : decode cX0_stepped 83 = .ok (.idiv, 1) := by decide +kernel
theorem dX0_stepped_84 : decode cX0_stepped 84 = .ok (.ifCond .ne 7, 3) := by decide +kernel
theorem dX0_stepped_87 : decode cX0_stepped 87 = .ok (.iconst (-1), 1) := by decide +kernel
theorem dX0_stepped_88 : decode cX0_stepped 88 = .ok (.goto 7, 3) := by decide +kernel
theorem dX0_stepped_91 : decode cX0_stepped 91 = .ok (.iload_n 0, 1) := by decide +kernel
theorem dX0_stepped_92 : decode cX0_stepped 92 = .ok (.bipush 6, 2) := by decide +kernel
theorem dX0_stepped_94 : decode cX0_stepped 94 = .ok (.isub, 1) := by decide +kernel
theorem dX0_stepped_95 : decode cX0_stepped 95 = .ok (.ireturn, 1) := by decide +kernel
theorem dX0_stepped_96 : decode cX0_stepped 96 = .ok (.iload_n 0, 1) := by decide +kernel
theorem dX0_stepped_97 : decode cX0_stepped 97 = .ok (.ireturn, 1) := by decide +kernel
abbrev cX1_init : ByteArray := prog_3_method_1_code
abbrev mX1_init : MethodName := { cls := "KinInTheHeap$Reader", name := "<init>", desc := "()V" }
theorem dX1_init_0 : decode cX1_init 0 = .ok (.aload_n 0, 1) := by decide +kernel
theorem dX1_init_1 : decode cX1_init 1 = .ok (.invokespecial 3, 3) := by decide +kernel
theorem dX1_init_4 : decode cX1_init 4 = .ok (.aload_n 0, 1) := by decide +kernel
theorem dX1_init_5 : decode cX1_init 5 = .ok (.sipush 160, 3) := by decide +kernel
theorem dX1_init_8 : decode cX1_init 8 = .ok (.newarray .int, 2) := by decide +kernel
theorem dX1_init_10 : decode cX1_init 10 = .ok (.putfield 9, 3) := by decide +kernel
theorem dX1_init_13 : decode cX1_init 13 = .ok (.aload_n 0, 1) := by decide +kernel
theorem dX1_init_14 : decode cX1_init 14 = .ok (.sipush 161, 3) := by decide +kernel
theorem dX1_init_17 : decode cX1_init 17 = .ok (.newarray .int, 2) := by decide +kernel
theorem dX1_init_19 : decode cX1_init 19 = .ok (.putfield 15, 3) := by decide +kernel
theorem dX1_init_22 : decode cX1_init 22 = .ok (.aload_n 0, 1) := by decide +kernel
theorem dX1_init_23 : decode cX1_init 23 = .ok (.sipush 161, 3) := by decide +kernel
theorem dX1_init_26 : decode cX1_init 26 = .ok (.newarray .int, 2) := by decide +kernel
theorem dX1_init_28 : decode cX1_init 28 = .ok (.putfield 18, 3) := by decide +kernel
theorem dX1_init_31 : decode cX1_init 31 = .ok (.aload_n 0, 1) := by decide +kernel
theorem dX1_init_32 : decode cX1_init 32 = .ok (.sipush 160, 3) := by decide +kernel
theorem dX1_init_35 : decode cX1_init 35 = .ok (.newarray .int, 2) := by decide +kernel
theorem dX1_init_37 : decode cX1_init 37 = .ok (.putfield 21, 3) := by decide +kernel
theorem dX1_init_40 : decode cX1_init 40 = .ok (.return_, 1) := by decide +kernel
abbrev cX1_take : ByteArray := prog_3_method_2_code
abbrev mX1_take : MethodName := { cls := "KinInTheHeap$Reader", name := "take", desc := "(I)Z" }
theorem mwX1_take : MWV mX1_take (.code mX1_take cX1_take 2 (some .boolean)) "KinInTheHeap$Reader" 1 := ⟨w414, w412, w413, w99, w99, by decide +kernel⟩
theorem dX1_take_0 : decode cX1_take 0 = .ok (.aload_n 0, 1) := by decide +kernel
theorem dX1_take_1 : decode cX1_take 1 = .ok (.getfield 24, 3) := by decide +kernel
theorem dX1_take_4 : decode cX1_take 4 = .ok (.sipush 160, 3) := by decide +kernel
theorem dX1_take_7 : decode cX1_take 7 = .ok (.if_icmp .lt 5, 3) := by decide +kernel
theorem dX1_take_10 : decode cX1_take 10 = .ok (.iconst 0, 1) := by decide +kernel
theorem dX1_take_11 : decode cX1_take 11 = .ok (.ireturn, 1) := by decide +kernel
theorem dX1_take_12 : decode cX1_take 12 = .ok (.aload_n 0, 1) := by decide +kernel
theorem dX1_take_13 : decode cX1_take 13 = .ok (.getfield 9, 3) := by decide +kernel
theorem dX1_take_16 : decode cX1_take 16 = .ok (.aload_n 0, 1) := by decide +kernel
theorem dX1_take_17 : decode cX1_take 17 = .ok (.getfield 24, 3) := by decide +kernel
theorem dX1_take_20 : decode cX1_take 20 = .ok (.iload_n 1, 1) := by decide +kernel
theorem dX1_take_21 : decode cX1_take 21 = .ok (.iastore, 1) := by decide +kernel
theorem dX1_take_22 : decode cX1_take 22 = .ok (.aload_n 0, 1) := by decide +kernel
theorem dX1_take_23 : decode cX1_take 23 = .ok (.dup, 1) := by decide +kernel
theorem dX1_take_24 : decode cX1_take 24 = .ok (.getfield 24, 3) := by decide +kernel
theorem dX1_take_27 : decode cX1_take 27 = .ok (.iconst 1, 1) := by decide +kernel
theorem dX1_take_28 : decode cX1_take 28 = .ok (.iadd, 1) := by decide +kernel
theorem dX1_take_29 : decode cX1_take 29 = .ok (.putfield 24, 3) := by decide +kernel
theorem dX1_take_32 : decode cX1_take 32 = .ok (.iconst 1, 1) := by decide +kernel
theorem dX1_take_33 : decode cX1_take 33 = .ok (.ireturn, 1) := by decide +kernel
abbrev cX1_clear : ByteArray := prog_3_method_3_code
abbrev mX1_clear : MethodName := { cls := "KinInTheHeap$Reader", name := "clear", desc := "()V" }
theorem mwX1_clear : MWV mX1_clear (.code mX1_clear cX1_clear 1 none) "KinInTheHeap$Reader" 0 := ⟨w626, w624, w625, w99, w99, by decide +kernel⟩
theorem dX1_clear_0 : decode cX1_clear 0 = .ok (.aload_n 0, 1) := by decide +kernel
theorem dX1_clear_1 : decode cX1_clear 1 = .ok (.iconst 0, 1) := by decide +kernel
theorem dX1_clear_2 : decode cX1_clear 2 = .ok (.putfield 24, 3) := by decide +kernel
theorem dX1_clear_5 : decode cX1_clear 5 = .ok (.return_, 1) := by decide +kernel
abbrev cX1_read : ByteArray := prog_3_method_4_code
abbrev mX1_read : MethodName := { cls := "KinInTheHeap$Reader", name := "read", desc := "(LKinInTheHeap$Text;)I" }
theorem mwX1_read : MWV mX1_read (.code mX1_read cX1_read 3 (some .int)) "KinInTheHeap$Reader" 1 := ⟨w422, w420, w421, w99, w99, by decide +kernel⟩
theorem dX1_read_0 : decode cX1_read 0 = .ok (.aload_n 0, 1) := by decide +kernel
theorem dX1_read_1 : decode cX1_read 1 = .ok (.invokevirtual 28, 3) := by decide +kernel
theorem dX1_read_4 : decode cX1_read 4 = .ok (.aload_n 1, 1) := by decide +kernel
theorem dX1_read_5 : decode cX1_read 5 = .ok (.invokevirtual 31, 3) := by decide +kernel
theorem dX1_read_8 : decode cX1_read 8 = .ok (.aload_n 0, 1) := by decide +kernel
theorem dX1_read_9 : decode cX1_read 9 = .ok (.iconst 0, 1) := by decide +kernel
theorem dX1_read_10 : decode cX1_read 10 = .ok (.putfield 36, 3) := by decide +kernel
theorem dX1_read_13 : decode cX1_read 13 = .ok (.iconst 0, 1) := by decide +kernel
theorem dX1_read_14 : decode cX1_read 14 = .ok (.istore_n 2, 1) := by decide +kernel
theorem dX1_read_15 : decode cX1_read 15 = .ok (.iload_n 2, 1) := by decide +kernel
theorem dX1_read_16 : decode cX1_read 16 = .ok (.iconst 3, 1) := by decide +kernel
theorem dX1_read_17 : decode cX1_read 17 = .ok (.if_icmp .ge 26, 3) := by decide +kernel
theorem dX1_read_20 : decode cX1_read 20 = .ok (.aload_n 0, 1) := by decide +kernel
theorem dX1_read_21 : decode cX1_read 21 = .ok (.bipush (-3), 2) := by decide +kernel
theorem dX1_read_23 : decode cX1_read 23 = .ok (.iload_n 2, 1) := by decide +kernel
theorem dX1_read_24 : decode cX1_read 24 = .ok (.isub, 1) := by decide +kernel
theorem dX1_read_25 : decode cX1_read 25 = .ok (.aload_n 1, 1) := by decide +kernel
theorem dX1_read_26 : decode cX1_read 26 = .ok (.invokevirtual 39, 3) := by decide +kernel
theorem dX1_read_29 : decode cX1_read 29 = .ok (.ifCond .ne 8, 3) := by decide +kernel
theorem dX1_read_32 : decode cX1_read 32 = .ok (.aload_n 0, 1) := by decide +kernel
theorem dX1_read_33 : decode cX1_read 33 = .ok (.invokevirtual 43, 3) := by decide +kernel
theorem dX1_read_36 : decode cX1_read 36 = .ok (.ireturn, 1) := by decide +kernel
theorem dX1_read_37 : decode cX1_read 37 = .ok (.iinc 2 1, 3) := by decide +kernel
theorem dX1_read_40 : decode cX1_read 40 = .ok (.goto (-25), 3) := by decide +kernel
theorem dX1_read_43 : decode cX1_read 43 = .ok (.aload_n 0, 1) := by decide +kernel
theorem dX1_read_44 : decode cX1_read 44 = .ok (.iconst (-1), 1) := by decide +kernel
theorem dX1_read_45 : decode cX1_read 45 = .ok (.invokevirtual 47, 3) := by decide +kernel
theorem dX1_read_48 : decode cX1_read 48 = .ok (.ifCond .eq 7, 3) := by decide +kernel
theorem dX1_read_51 : decode cX1_read 51 = .ok (.iconst (-1), 1) := by decide +kernel
theorem dX1_read_52 : decode cX1_read 52 = .ok (.goto 7, 3) := by decide +kernel
theorem dX1_read_55 : decode cX1_read 55 = .ok (.aload_n 0, 1) := by decide +kernel
theorem dX1_read_56 : decode cX1_read 56 = .ok (.invokevirtual 43, 3) := by decide +kernel
theorem dX1_read_59 : decode cX1_read 59 = .ok (.ireturn, 1) := by decide +kernel
abbrev cX1_findTokens : ByteArray := prog_3_method_5_code
abbrev mX1_findTokens : MethodName := { cls := "KinInTheHeap$Reader", name := "findTokens", desc := "()V" }
theorem mwX1_findTokens : MWV mX1_findTokens (.code mX1_findTokens cX1_findTokens 4 none) "KinInTheHeap$Reader" 0 := ⟨w426, w425, w9, w99, w99, by decide +kernel⟩
theorem dX1_findTokens_0 : decode cX1_findTokens 0 = .ok (.aload_n 0, 1) := by decide +kernel
theorem dX1_findTokens_1 : decode cX1_findTokens 1 = .ok (.iconst 0, 1) := by decide +kernel
theorem dX1_findTokens_2 : decode cX1_findTokens 2 = .ok (.putfield 51, 3) := by decide +kernel
theorem dX1_findTokens_5 : decode cX1_findTokens 5 = .ok (.iconst 0, 1) := by decide +kernel
theorem dX1_findTokens_6 : decode cX1_findTokens 6 = .ok (.istore_n 1, 1) := by decide +kernel
theorem dX1_findTokens_7 : decode cX1_findTokens 7 = .ok (.iload_n 1, 1) := by decide +kernel
theorem dX1_findTokens_8 : decode cX1_findTokens 8 = .ok (.aload_n 0, 1) := by decide +kernel
theorem dX1_findTokens_9 : decode cX1_findTokens 9 = .ok (.getfield 24, 3) := by decide +kernel
theorem dX1_findTokens_12 : decode cX1_findTokens 12 = .ok (.if_icmp .ge 62, 3) := by decide +kernel
theorem dX1_findTokens_15 : decode cX1_findTokens 15 = .ok (.aload_n 0, 1) := by decide +kernel
theorem dX1_findTokens_16 : decode cX1_findTokens 16 = .ok (.getfield 9, 3) := by decide +kernel
theorem dX1_findTokens_19 : decode cX1_findTokens 19 = .ok (.iload_n 1, 1) := by decide +kernel
theorem dX1_findTokens_20 : decode cX1_findTokens 20 = .ok (.iaload, 1) := by decide +kernel
theorem dX1_findTokens_21 : decode cX1_findTokens 21 = .ok (.bipush 32, 2) := by decide +kernel
theorem dX1_findTokens_23 : decode cX1_findTokens 23 = .ok (.if_icmp .eq 14, 3) := by decide +kernel
theorem dX1_findTokens_26 : decode cX1_findTokens 26 = .ok (.aload_n 0, 1) := by decide +kernel
theorem dX1_findTokens_27 : decode cX1_findTokens 27 = .ok (.getfield 9, 3) := by decide +kernel
theorem dX1_findTokens_30 : decode cX1_findTokens 30 = .ok (.iload_n 1, 1) := by decide +kernel
theorem dX1_findTokens_31 : decode cX1_findTokens 31 = .ok (.iaload, 1) := by decide +kernel
theorem dX1_findTokens_32 : decode cX1_findTokens 32 = .ok (.bipush 10, 2) := by decide +kernel
theorem dX1_findTokens_34 : decode cX1_findTokens 34 = .ok (.if_icmp .ne 9, 3) := by decide +kernel
theorem dX1_findTokens_37 : decode cX1_findTokens 37 = .ok (.iinc 1 1, 3) := by decide +kernel
theorem dX1_findTokens_40 : decode cX1_findTokens 40 = .ok (.goto (-33), 3) := by decide +kernel
theorem dX1_findTokens_43 : decode cX1_findTokens 43 = .ok (.aload_n 0, 1) := by decide +kernel
theorem dX1_findTokens_44 : decode cX1_findTokens 44 = .ok (.iload_n 1, 1) := by decide +kernel
theorem dX1_findTokens_45 : decode cX1_findTokens 45 = .ok (.invokevirtual 54, 3) := by decide +kernel
theorem dX1_findTokens_48 : decode cX1_findTokens 48 = .ok (.istore_n 2, 1) := by decide +kernel
theorem dX1_findTokens_49 : decode cX1_findTokens 49 = .ok (.aload_n 0, 1) := by decide +kernel
theorem dX1_findTokens_50 : decode cX1_findTokens 50 = .ok (.iload_n 1, 1) := by decide +kernel
theorem dX1_findTokens_51 : decode cX1_findTokens 51 = .ok (.iload_n 2, 1) := by decide +kernel
theorem dX1_findTokens_52 : decode cX1_findTokens 52 = .ok (.invokevirtual 58, 3) := by decide +kernel
theorem dX1_findTokens_55 : decode cX1_findTokens 55 = .ok (.istore_n 3, 1) := by decide +kernel
theorem dX1_findTokens_56 : decode cX1_findTokens 56 = .ok (.aload_n 0, 1) := by decide +kernel
theorem dX1_findTokens_57 : decode cX1_findTokens 57 = .ok (.iload_n 3, 1) := by decide +kernel
theorem dX1_findTokens_58 : decode cX1_findTokens 58 = .ok (.iload_n 1, 1) := by decide +kernel
theorem dX1_findTokens_59 : decode cX1_findTokens 59 = .ok (.invokevirtual 62, 3) := by decide +kernel
theorem dX1_findTokens_62 : decode cX1_findTokens 62 = .ok (.iload_n 3, 1) := by decide +kernel
theorem dX1_findTokens_63 : decode cX1_findTokens 63 = .ok (.bipush (-2), 2) := by decide +kernel
theorem dX1_findTokens_65 : decode cX1_findTokens 65 = .ok (.if_icmp .ne 4, 3) := by decide +kernel
theorem dX1_findTokens_68 : decode cX1_findTokens 68 = .ok (.return_, 1) := by decide +kernel
theorem dX1_findTokens_69 : decode cX1_findTokens 69 = .ok (.iload_n 2, 1) := by decide +kernel
theorem dX1_findTokens_70 : decode cX1_findTokens 70 = .ok (.istore_n 1, 1) := by decide +kernel
theorem dX1_findTokens_71 : decode cX1_findTokens 71 = .ok (.goto (-64), 3) := by decide +kernel
theorem dX1_findTokens_74 : decode cX1_findTokens 74 = .ok (.aload_n 0, 1) := by decide +kernel
theorem dX1_findTokens_75 : decode cX1_findTokens 75 = .ok (.iconst (-1), 1) := by decide +kernel
theorem dX1_findTokens_76 : decode cX1_findTokens 76 = .ok (.aload_n 0, 1) := by decide +kernel
theorem dX1_findTokens_77 : decode cX1_findTokens 77 = .ok (.getfield 24, 3) := by decide +kernel
theorem dX1_findTokens_80 : decode cX1_findTokens 80 = .ok (.invokevirtual 62, 3) := by decide +kernel
theorem dX1_findTokens_83 : decode cX1_findTokens 83 = .ok (.return_, 1) := by decide +kernel
abbrev cX1_addToken : ByteArray := prog_3_method_6_code
abbrev mX1_addToken : MethodName := { cls := "KinInTheHeap$Reader", name := "addToken", desc := "(II)V" }
theorem mwX1_addToken : MWV mX1_addToken (.code mX1_addToken cX1_addToken 3 none) "KinInTheHeap$Reader" 2 := ⟨w576, w575, w15, w99, w99, by decide +kernel⟩
theorem dX1_addToken_0 : decode cX1_addToken 0 = .ok (.aload_n 0, 1) := by decide +kernel
theorem dX1_addToken_1 : decode cX1_addToken 1 = .ok (.getfield 51, 3) := by decide +kernel
theorem dX1_addToken_4 : decode cX1_addToken 4 = .ok (.sipush 160, 3) := by decide +kernel
theorem dX1_addToken_7 : decode cX1_addToken 7 = .ok (.if_icmp .gt 33, 3) := by decide +kernel
theorem dX1_addToken_10 : decode cX1_addToken 10 = .ok (.aload_n 0, 1) := by decide +kernel
theorem dX1_addToken_11 : decode cX1_addToken 11 = .ok (.getfield 15, 3) := by decide +kernel
theorem dX1_addToken_14 : decode cX1_addToken 14 = .ok (.aload_n 0, 1) := by decide +kernel
theorem dX1_addToken_15 : decode cX1_addToken 15 = .ok (.getfield 51, 3) := by decide +kernel
theorem dX1_addToken_18 : decode cX1_addToken 18 = .ok (.iload_n 1, 1) := by decide +kernel
theorem dX1_addToken_19 : decode cX1_addToken 19 = .ok (.iastore, 1) := by decide +kernel
theorem dX1_addToken_20 : decode cX1_addToken 20 = .ok (.aload_n 0, 1) := by decide +kernel
theorem dX1_addToken_21 : decode cX1_addToken 21 = .ok (.getfield 18, 3) := by decide +kernel
theorem dX1_addToken_24 : decode cX1_addToken 24 = .ok (.aload_n 0, 1) := by decide +kernel
theorem dX1_addToken_25 : decode cX1_addToken 25 = .ok (.getfield 51, 3) := by decide +kernel
theorem dX1_addToken_28 : decode cX1_addToken 28 = .ok (.iload_n 2, 1) := by decide +kernel
theorem dX1_addToken_29 : decode cX1_addToken 29 = .ok (.iastore, 1) := by decide +kernel
theorem dX1_addToken_30 : decode cX1_addToken 30 = .ok (.aload_n 0, 1) := by decide +kernel
theorem dX1_addToken_31 : decode cX1_addToken 31 = .ok (.dup, 1) := by decide +kernel
theorem dX1_addToken_32 : decode cX1_addToken 32 = .ok (.getfield 51, 3) := by decide +kernel
theorem dX1_addToken_35 : decode cX1_addToken 35 = .ok (.iconst 1, 1) := by decide +kernel
theorem dX1_addToken_36 : decode cX1_addToken 36 = .ok (.iadd, 1) := by decide +kernel
theorem dX1_addToken_37 : decode cX1_addToken 37 = .ok (.putfield 51, 3) := by decide +kernel
theorem dX1_addToken_40 : decode cX1_addToken 40 = .ok (.return_, 1) := by decide +kernel
abbrev cX1_endOfToken : ByteArray := prog_3_method_7_code
abbrev mX1_endOfToken : MethodName := { cls := "KinInTheHeap$Reader", name := "endOfToken", desc := "(I)I" }
theorem mwX1_endOfToken : MWV mX1_endOfToken (.code mX1_endOfToken cX1_endOfToken 3 (some .int)) "KinInTheHeap$Reader" 1 := ⟨w430, w429, w10, w99, w99, by decide +kernel⟩
theorem dX1_endOfToken_0 : decode cX1_endOfToken 0 = .ok (.iload_n 1, 1) := by decide +kernel
theorem dX1_endOfToken_1 : decode cX1_endOfToken 1 = .ok (.iconst 1, 1) := by decide +kernel
theorem dX1_endOfToken_2 : decode cX1_endOfToken 2 = .ok (.iadd, 1) := by decide +kernel
theorem dX1_endOfToken_3 : decode cX1_endOfToken 3 = .ok (.istore_n 2, 1) := by decide +kernel
theorem dX1_endOfToken_4 : decode cX1_endOfToken 4 = .ok (.aload_n 0, 1) := by decide +kernel
theorem dX1_endOfToken_5 : decode cX1_endOfToken 5 = .ok (.getfield 9, 3) := by decide +kernel
theorem dX1_endOfToken_8 : decode cX1_endOfToken 8 = .ok (.iload_n 1, 1) := by decide +kernel
theorem dX1_endOfToken_9 : decode cX1_endOfToken 9 = .ok (.iaload, 1) := by decide +kernel
theorem dX1_endOfToken_10 : decode cX1_endOfToken 10 = .ok (.invokestatic 66, 3) := by decide +kernel
theorem dX1_endOfToken_13 : decode cX1_endOfToken 13 = .ok (.ifCond .eq 29, 3) := by decide +kernel
theorem dX1_endOfToken_16 : decode cX1_endOfToken 16 = .ok (.iload_n 2, 1) := by decide +kernel
theorem dX1_endOfToken_17 : decode cX1_endOfToken 17 = .ok (.aload_n 0, 1) := by decide +kernel
theorem dX1_endOfToken_18 : decode cX1_endOfToken 18 = .ok (.getfield 24, 3) := by decide +kernel
theorem dX1_endOfToken_21 : decode cX1_endOfToken 21 = .ok (.if_icmp .ge 59, 3) := by decide +kernel
theorem dX1_endOfToken_24 : decode cX1_endOfToken 24 = .ok (.aload_n 0, 1) := by decide +kernel
theorem dX1_endOfToken_25 : decode cX1_endOfToken 25 = .ok (.getfield 9, 3) := by decide +kernel
theorem dX1_endOfToken_28 : decode cX1_endOfToken 28 = .ok (.iload_n 2, 1) := by decide +kernel
theorem dX1_endOfToken_29 : decode cX1_endOfToken 29 = .ok (.iaload, 1) := by decide +kernel
theorem dX1_endOfToken_30 : decode cX1_endOfToken 30 = .ok (.invokestatic 66, 3) := by decide +kernel
theorem dX1_endOfToken_33 : decode cX1_endOfToken 33 = .ok (.ifCond .eq 47, 3) := by decide +kernel
theorem dX1_endOfToken_36 : decode cX1_endOfToken 36 = .ok (.iinc 2 1, 3) := by decide +kernel
theorem dX1_endOfToken_39 : decode cX1_endOfToken 39 = .ok (.goto (-23), 3) := by decide +kernel
theorem dX1_endOfToken_42 : decode cX1_endOfToken 42 = .ok (.aload_n 0, 1) := by decide +kernel
theorem dX1_endOfToken_43 : decode cX1_endOfToken 43 = .ok (.getfield 9, 3) := by decide +kernel
theorem dX1_endOfToken_46 : decode cX1_endOfToken 46 = .ok (.iload_n 1, 1) := by decide +kernel
theorem dX1_endOfToken_47 : decode cX1_endOfToken 47 = .ok (.iaload, 1) := by decide +kernel
theorem dX1_endOfToken_48 : decode cX1_endOfToken 48 = .ok (.invokestatic 69, 3) := by decide +kernel
theorem dX1_endOfToken_51 : decode cX1_endOfToken 51 = .ok (.ifCond .eq 29, 3) := by decide +kernel
theorem dX1_endOfToken_54 : decode cX1_endOfToken 54 = .ok (.iload_n 2, 1) := by decide +kernel
theorem dX1_endOfToken_55 : decode cX1_endOfToken 55 = .ok (.aload_n 0, 1) := by decide +kernel
theorem dX1_endOfToken_56 : decode cX1_endOfToken 56 = .ok (.getfield 24, 3) := by decide +kernel
theorem dX1_endOfToken_59 : decode cX1_endOfToken 59 = .ok (.if_icmp .ge 21, 3) := by decide +kernel
theorem dX1_endOfToken_62 : decode cX1_endOfToken 62 = .ok (.aload_n 0, 1) := by decide +kernel
theorem dX1_endOfToken_63 : decode cX1_endOfToken 63 = .ok (.getfield 9, 3) := by decide +kernel
theorem dX1_endOfToken_66 : decode cX1_endOfToken 66 = .ok (.iload_n 2, 1) := by decide +kernel
theorem dX1_endOfToken_67 : decode cX1_endOfToken 67 = .ok (.iaload, 1) := by decide +kernel
theorem dX1_endOfToken_68 : decode cX1_endOfToken 68 = .ok (.invokestatic 69, 3) := by decide +kernel
theorem dX1_endOfToken_71 : decode cX1_endOfToken 71 = .ok (.ifCond .eq 9, 3) := by decide +kernel
theorem dX1_endOfToken_74 : decode cX1_endOfToken 74 = .ok (.iinc 2 1, 3) := by decide +kernel
theorem dX1_endOfToken_77 : decode cX1_endOfToken 77 = .ok (.goto (-23), 3) := by decide +kernel
theorem dX1_endOfToken_80 : decode cX1_endOfToken 80 = .ok (.iload_n 2, 1) := by decide +kernel
theorem dX1_endOfToken_81 : decode cX1_endOfToken 81 = .ok (.ireturn, 1) := by decide +kernel
abbrev cX1_tokenOf : ByteArray := prog_3_method_8_code
abbrev mX1_tokenOf : MethodName := { cls := "KinInTheHeap$Reader", name := "tokenOf", desc := "(II)I" }
theorem mwX1_tokenOf : MWV mX1_tokenOf (.code mX1_tokenOf cX1_tokenOf 4 (some .int)) "KinInTheHeap$Reader" 2 := ⟨w441, w440, w11, w99, w99, by decide +kernel⟩
theorem dX1_tokenOf_0 : decode cX1_tokenOf 0 = .ok (.aload_n 0, 1) := by decide +kernel
theorem dX1_tokenOf_1 : decode cX1_tokenOf 1 = .ok (.getfield 9, 3) := by decide +kernel
theorem dX1_tokenOf_4 : decode cX1_tokenOf 4 = .ok (.iload_n 1, 1) := by decide +kernel
theorem dX1_tokenOf_5 : decode cX1_tokenOf 5 = .ok (.iaload, 1) := by decide +kernel
theorem dX1_tokenOf_6 : decode cX1_tokenOf 6 = .ok (.invokestatic 66, 3) := by decide +kernel
theorem dX1_tokenOf_9 : decode cX1_tokenOf 9 = .ok (.ifCond .eq 10, 3) := by decide +kernel
theorem dX1_tokenOf_12 : decode cX1_tokenOf 12 = .ok (.aload_n 0, 1) := by decide +kernel
theorem dX1_tokenOf_13 : decode cX1_tokenOf 13 = .ok (.iload_n 1, 1) := by decide +kernel
theorem dX1_tokenOf_14 : decode cX1_tokenOf 14 = .ok (.iload_n 2, 1) := by decide +kernel
theorem dX1_tokenOf_15 : decode cX1_tokenOf 15 = .ok (.invokevirtual 72, 3) := by decide +kernel
theorem dX1_tokenOf_18 : decode cX1_tokenOf 18 = .ok (.ireturn, 1) := by decide +kernel
theorem dX1_tokenOf_19 : decode cX1_tokenOf 19 = .ok (.aload_n 0, 1) := by decide +kernel
theorem dX1_tokenOf_20 : decode cX1_tokenOf 20 = .ok (.getfield 9, 3) := by decide +kernel
theorem dX1_tokenOf_23 : decode cX1_tokenOf 23 = .ok (.iload_n 1, 1) := by decide +kernel
theorem dX1_tokenOf_24 : decode cX1_tokenOf 24 = .ok (.iaload, 1) := by decide +kernel
theorem dX1_tokenOf_25 : decode cX1_tokenOf 25 = .ok (.invokestatic 69, 3) := by decide +kernel
theorem dX1_tokenOf_28 : decode cX1_tokenOf 28 = .ok (.ifCond .eq 10, 3) := by decide +kernel
theorem dX1_tokenOf_31 : decode cX1_tokenOf 31 = .ok (.aload_n 0, 1) := by decide +kernel
theorem dX1_tokenOf_32 : decode cX1_tokenOf 32 = .ok (.iload_n 1, 1) := by decide +kernel
theorem dX1_tokenOf_33 : decode cX1_tokenOf 33 = .ok (.iload_n 2, 1) := by decide +kernel
theorem dX1_tokenOf_34 : decode cX1_tokenOf 34 = .ok (.invokevirtual 75, 3) := by decide +kernel
theorem dX1_tokenOf_37 : decode cX1_tokenOf 37 = .ok (.ireturn, 1) := by decide +kernel
theorem dX1_tokenOf_38 : decode cX1_tokenOf 38 = .ok (.ldc 78, 2) := by decide +kernel
theorem dX1_tokenOf_40 : decode cX1_tokenOf 40 = .ok (.aload_n 0, 1) := by decide +kernel
theorem dX1_tokenOf_41 : decode cX1_tokenOf 41 = .ok (.getfield 9, 3) := by decide +kernel
theorem dX1_tokenOf_44 : decode cX1_tokenOf 44 = .ok (.iload_n 1, 1) := by decide +kernel
theorem dX1_tokenOf_45 : decode cX1_tokenOf 45 = .ok (.iaload, 1) := by decide +kernel
theorem dX1_tokenOf_46 : decode cX1_tokenOf 46 = .ok (.i2c, 1) := by decide +kernel
theorem dX1_tokenOf_47 : decode cX1_tokenOf 47 = .ok (.invokevirtual 80, 3) := by decide +kernel
theorem dX1_tokenOf_50 : decode cX1_tokenOf 50 = .ok (.istore_n 3, 1) := by decide +kernel
theorem dX1_tokenOf_51 : decode cX1_tokenOf 51 = .ok (.iload_n 3, 1) := by decide +kernel
theorem dX1_tokenOf_52 : decode cX1_tokenOf 52 = .ok (.ifCond .ge 8, 3) := by decide +kernel
theorem dX1_tokenOf_55 : decode cX1_tokenOf 55 = .ok (.bipush (-2), 2) := by decide +kernel
theorem dX1_tokenOf_57 : decode cX1_tokenOf 57 = .ok (.goto 7, 3) := by decide +kernel
theorem dX1_tokenOf_60 : decode cX1_tokenOf 60 = .ok (.bipush (-10), 2) := by decide +kernel
theorem dX1_tokenOf_62 : decode cX1_tokenOf 62 = .ok (.iload_n 3, 1) := by decide +kernel
theorem dX1_tokenOf_63 : decode cX1_tokenOf 63 = .ok (.isub, 1) := by decide +kernel
theorem dX1_tokenOf_64 : decode cX1_tokenOf 64 = .ok (.ireturn, 1) := by decide +kernel
