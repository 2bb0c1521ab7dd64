abbrev cX1_numberToken : ByteArray := prog_3_method_9_code
abbrev mX1_numberToken : MethodName := { cls := "KinInTheHeap$Reader", name := "numberToken", desc := "(II)I" }
theorem mwX1_numberToken : MWV mX1_numberToken (.code mX1_numberToken cX1_numberToken 5 (some .int)) "KinInTheHeap$Reader" 2 := ⟨w516, w515, w14, w99, w99, by decide +kernel⟩
theorem dX1_numberToken_0 : decode cX1_numberToken 0 = .ok (.iload_n 2, 1) := by decide +kernel
theorem dX1_numberToken_1 : decode cX1_numberToken 1 = .ok (.iload_n 1, 1) := by decide +kernel
theorem dX1_numberToken_2 : decode cX1_numberToken 2 = .ok (.isub, 1) := by decide +kernel
theorem dX1_numberToken_3 : decode cX1_numberToken 3 = .ok (.iconst 4, 1) := by decide +kernel
theorem dX1_numberToken_4 : decode cX1_numberToken 4 = .ok (.if_icmp .le 6, 3) := by decide +kernel
theorem dX1_numberToken_7 : decode cX1_numberToken 7 = .ok (.bipush (-2), 2) := by decide +kernel
theorem dX1_numberToken_9 : decode cX1_numberToken 9 = .ok (.ireturn, 1) := by decide +kernel
theorem dX1_numberToken_10 : decode cX1_numberToken 10 = .ok (.iconst 0, 1) := by decide +kernel
theorem dX1_numberToken_11 : decode cX1_numberToken 11 = .ok (.istore_n 3, 1) := by decide +kernel
theorem dX1_numberToken_12 : decode cX1_numberToken 12 = .ok (.iload_n 1, 1) := by decide +kernel
theorem dX1_numberToken_13 : decode cX1_numberToken 13 = .ok (.istore 4, 2) := by decide +kernel
theorem dX1_numberToken_15 : decode cX1_numberToken 15 = .ok (.iload 4, 2) := by decide +kernel
theorem dX1_numberToken_17 : decode cX1_numberToken 17 = .ok (.iload_n 2, 1) := by decide +kernel
theorem dX1_numberToken_18 : decode cX1_numberToken 18 = .ok (.if_icmp .ge 25, 3) := by decide +kernel
theorem dX1_numberToken_21 : decode cX1_numberToken 21 = .ok (.iload_n 3, 1) := by decide +kernel
theorem dX1_numberToken_22 : decode cX1_numberToken 22 = .ok (.bipush 10, 2) := by decide +kernel
theorem dX1_numberToken_24 : decode cX1_numberToken 24 = .ok (.imul, 1) := by decide +kernel
theorem dX1_numberToken_25 : decode cX1_numberToken 25 = .ok (.aload_n 0, 1) := by decide +kernel
theorem dX1_numberToken_26 : decode cX1_numberToken 26 = .ok (.getfield 9, 3) := by decide +kernel
theorem dX1_numberToken_29 : decode cX1_numberToken 29 = .ok (.iload 4, 2) := by decide +kernel
theorem dX1_numberToken_31 : decode cX1_numberToken 31 = .ok (.iaload, 1) := by decide +kernel
theorem dX1_numberToken_32 : decode cX1_numberToken 32 = .ok (.iadd, 1) := by decide +kernel
theorem dX1_numberToken_33 : decode cX1_numberToken 33 = .ok (.bipush 48, 2) := by decide +kernel
theorem dX1_numberToken_35 : decode cX1_numberToken 35 = .ok (.isub, 1) := by decide +kernel
theorem dX1_numberToken_36 : decode cX1_numberToken 36 = .ok (.istore_n 3, 1) := by decide +kernel
theorem dX1_numberToken_37 : decode cX1_numberToken 37 = .ok (.iinc 4 1, 3) := by decide +kernel
theorem dX1_numberToken_40 : decode cX1_numberToken 40 = .ok (.goto (-25), 3) := by decide +kernel
theorem dX1_numberToken_43 : decode cX1_numberToken 43 = .ok (.iload_n 3, 1) := by decide +kernel
theorem dX1_numberToken_44 : decode cX1_numberToken 44 = .ok (.ireturn, 1) := by decide +kernel
abbrev cX1_wordToken : ByteArray := prog_3_method_10_code
abbrev mX1_wordToken : MethodName := { cls := "KinInTheHeap$Reader", name := "wordToken", desc := "(II)I" }
theorem mwX1_wordToken : MWV mX1_wordToken (.code mX1_wordToken cX1_wordToken 4 (some .int)) "KinInTheHeap$Reader" 2 := ⟨w445, w444, w12, w99, w99, by decide +kernel⟩
theorem dX1_wordToken_0 : decode cX1_wordToken 0 = .ok (.iconst 0, 1) := by decide +kernel
theorem dX1_wordToken_1 : decode cX1_wordToken 1 = .ok (.istore_n 3, 1) := by decide +kernel
theorem dX1_wordToken_2 : decode cX1_wordToken 2 = .ok (.iload_n 3, 1) := by decide +kernel
theorem dX1_wordToken_3 : decode cX1_wordToken 3 = .ok (.bipush 12, 2) := by decide +kernel
theorem dX1_wordToken_5 : decode cX1_wordToken 5 = .ok (.if_icmp .ge 44, 3) := by decide +kernel
theorem dX1_wordToken_8 : decode cX1_wordToken 8 = .ok (.aload_n 0, 1) := by decide +kernel
theorem dX1_wordToken_9 : decode cX1_wordToken 9 = .ok (.iload_n 3, 1) := by decide +kernel
theorem dX1_wordToken_10 : decode cX1_wordToken 10 = .ok (.invokestatic 85, 3) := by decide +kernel
theorem dX1_wordToken_13 : decode cX1_wordToken 13 = .ok (.iload_n 1, 1) := by decide +kernel
theorem dX1_wordToken_14 : decode cX1_wordToken 14 = .ok (.iload_n 2, 1) := by decide +kernel
theorem dX1_wordToken_15 : decode cX1_wordToken 15 = .ok (.invokevirtual 89, 3) := by decide +kernel
theorem dX1_wordToken_18 : decode cX1_wordToken 18 = .ok (.ifCond .eq 25, 3) := by decide +kernel
theorem dX1_wordToken_21 : decode cX1_wordToken 21 = .ok (.iload_n 3, 1) := by decide +kernel
theorem dX1_wordToken_22 : decode cX1_wordToken 22 = .ok (.bipush 6, 2) := by decide +kernel
theorem dX1_wordToken_24 : decode cX1_wordToken 24 = .ok (.if_icmp .ge 10, 3) := by decide +kernel
theorem dX1_wordToken_27 : decode cX1_wordToken 27 = .ok (.bipush (-3), 2) := by decide +kernel
theorem dX1_wordToken_29 : decode cX1_wordToken 29 = .ok (.iload_n 3, 1) := by decide +kernel
theorem dX1_wordToken_30 : decode cX1_wordToken 30 = .ok (.isub, 1) := by decide +kernel
theorem dX1_wordToken_31 : decode cX1_wordToken 31 = .ok (.goto 11, 3) := by decide +kernel
theorem dX1_wordToken_34 : decode cX1_wordToken 34 = .ok (.sipush 10000, 3) := by decide +kernel
theorem dX1_wordToken_37 : decode cX1_wordToken 37 = .ok (.iload_n 3, 1) := by decide +kernel
theorem dX1_wordToken_38 : decode cX1_wordToken 38 = .ok (.iadd, 1) := by decide +kernel
theorem dX1_wordToken_39 : decode cX1_wordToken 39 = .ok (.bipush 6, 2) := by decide +kernel
theorem dX1_wordToken_41 : decode cX1_wordToken 41 = .ok (.isub, 1) := by decide +kernel
theorem dX1_wordToken_42 : decode cX1_wordToken 42 = .ok (.ireturn, 1) := by decide +kernel
theorem dX1_wordToken_43 : decode cX1_wordToken 43 = .ok (.iinc 3 1, 3) := by decide +kernel
theorem dX1_wordToken_46 : decode cX1_wordToken 46 = .ok (.goto (-44), 3) := by decide +kernel
theorem dX1_wordToken_49 : decode cX1_wordToken 49 = .ok (.bipush (-2), 2) := by decide +kernel
theorem dX1_wordToken_51 : decode cX1_wordToken 51 = .ok (.ireturn, 1) := by decide +kernel
abbrev cX1_isWord : ByteArray := prog_3_method_11_code
abbrev mX1_isWord : MethodName := { cls := "KinInTheHeap$Reader", name := "isWord", desc := "(Ljava/lang/String;II)Z" }
theorem mwX1_isWord : MWV mX1_isWord (.code mX1_isWord cX1_isWord 5 (some .boolean)) "KinInTheHeap$Reader" 3 := ⟨w464, w463, w13, w99, w99, by decide +kernel⟩
theorem dX1_isWord_0 : decode cX1_isWord 0 = .ok (.aload_n 1, 1) := by decide +kernel
theorem dX1_isWord_1 : decode cX1_isWord 1 = .ok (.invokevirtual 93, 3) := by decide +kernel
theorem dX1_isWord_4 : decode cX1_isWord 4 = .ok (.iload_n 3, 1) := by decide +kernel
theorem dX1_isWord_5 : decode cX1_isWord 5 = .ok (.iload_n 2, 1) := by decide +kernel
theorem dX1_isWord_6 : decode cX1_isWord 6 = .ok (.isub, 1) := by decide +kernel
theorem dX1_isWord_7 : decode cX1_isWord 7 = .ok (.if_icmp .eq 5, 3) := by decide +kernel
theorem dX1_isWord_10 : decode cX1_isWord 10 = .ok (.iconst 0, 1) := by decide +kernel
theorem dX1_isWord_11 : decode cX1_isWord 11 = .ok (.ireturn, 1) := by decide +kernel
theorem dX1_isWord_12 : decode cX1_isWord 12 = .ok (.iload_n 2, 1) := by decide +kernel
theorem dX1_isWord_13 : decode cX1_isWord 13 = .ok (.istore 4, 2) := by decide +kernel
theorem dX1_isWord_15 : decode cX1_isWord 15 = .ok (.iload 4, 2) := by decide +kernel
theorem dX1_isWord_17 : decode cX1_isWord 17 = .ok (.iload_n 3, 1) := by decide +kernel
theorem dX1_isWord_18 : decode cX1_isWord 18 = .ok (.if_icmp .ge 29, 3) := by decide +kernel
theorem dX1_isWord_21 : decode cX1_isWord 21 = .ok (.aload_n 0, 1) := by decide +kernel
theorem dX1_isWord_22 : decode cX1_isWord 22 = .ok (.getfield 9, 3) := by decide +kernel
theorem dX1_isWord_25 : decode cX1_isWord 25 = .ok (.iload 4, 2) := by decide +kernel
theorem dX1_isWord_27 : decode cX1_isWord 27 = .ok (.iaload, 1) := by decide +kernel
theorem dX1_isWord_28 : decode cX1_isWord 28 = .ok (.aload_n 1, 1) := by decide +kernel
theorem dX1_isWord_29 : decode cX1_isWord 29 = .ok (.iload 4, 2) := by decide +kernel
theorem dX1_isWord_31 : decode cX1_isWord 31 = .ok (.iload_n 2, 1) := by decide +kernel
theorem dX1_isWord_32 : decode cX1_isWord 32 = .ok (.isub, 1) := by decide +kernel
theorem dX1_isWord_33 : decode cX1_isWord 33 = .ok (.invokevirtual 96, 3) := by decide +kernel
theorem dX1_isWord_36 : decode cX1_isWord 36 = .ok (.if_icmp .eq 5, 3) := by decide +kernel
theorem dX1_isWord_39 : decode cX1_isWord 39 = .ok (.iconst 0, 1) := by decide +kernel
theorem dX1_isWord_40 : decode cX1_isWord 40 = .ok (.ireturn, 1) := by decide +kernel
theorem dX1_isWord_41 : decode cX1_isWord 41 = .ok (.iinc 4 1, 3) := by decide +kernel
theorem dX1_isWord_44 : decode cX1_isWord 44 = .ok (.goto (-29), 3) := by decide +kernel
theorem dX1_isWord_47 : decode cX1_isWord 47 = .ok (.iconst 1, 1) := by decide +kernel
theorem dX1_isWord_48 : decode cX1_isWord 48 = .ok (.ireturn, 1) := by decide +kernel
abbrev cX1_wordOf : ByteArray := prog_3_method_12_code
abbrev mX1_wordOf : MethodName := { cls := "KinInTheHeap$Reader", name := "wordOf", desc := "(I)Ljava/lang/String;" }
theorem mwX1_wordOf : MWS mX1_wordOf (.code mX1_wordOf cX1_wordOf 1 (some (.object "java/lang/String"))) 1 := ⟨w448, w447, w99, by decide +kernel⟩
theorem dX1_wordOf_0 : decode cX1_wordOf 0 = .ok (.iload_n 0, 1) := by decide +kernel
theorem dX1_wordOf_1 : decode cX1_wordOf 1 = .ok (.tableswitch 92 0 10 #[59, 62, 65, 68, 71, 74, 77, 80, 83, 86, 89], 59) := by decide +kernel
theorem dX1_wordOf_60 : decode cX1_wordOf 60 = .ok (.ldc 100, 2) := by decide +kernel
theorem dX1_wordOf_62 : decode cX1_wordOf 62 = .ok (.areturn, 1) := by decide +kernel
theorem dX1_wordOf_63 : decode cX1_wordOf 63 = .ok (.ldc 102, 2) := by decide +kernel
theorem dX1_wordOf_65 : decode cX1_wordOf 65 = .ok (.areturn, 1) := by decide +kernel
theorem dX1_wordOf_66 : decode cX1_wordOf 66 = .ok (.ldc 104, 2) := by decide +kernel
theorem dX1_wordOf_68 : decode cX1_wordOf 68 = .ok (.areturn, 1) := by decide +kernel
theorem dX1_wordOf_69 : decode cX1_wordOf 69 = .ok (.ldc 106, 2) := by decide +kernel
theorem dX1_wordOf_71 : decode cX1_wordOf 71 = .ok (.areturn, 1) := by decide +kernel
theorem dX1_wordOf_72 : decode cX1_wordOf 72 = .ok (.ldc 108, 2) := by decide +kernel
theorem dX1_wordOf_74 : decode cX1_wordOf 74 = .ok (.areturn, 1) := by decide +kernel
theorem dX1_wordOf_75 : decode cX1_wordOf 75 = .ok (.ldc 110, 2) := by decide +kernel
theorem dX1_wordOf_77 : decode cX1_wordOf 77 = .ok (.areturn, 1) := by decide +kernel
theorem dX1_wordOf_78 : decode cX1_wordOf 78 = .ok (.ldc 112, 2) := by decide +kernel
theorem dX1_wordOf_80 : decode cX1_wordOf 80 = .ok (.areturn, 1) := by decide +kernel
theorem dX1_wordOf_81 : decode cX1_wordOf 81 = .ok (.ldc 114, 2) := by decide +kernel
theorem dX1_wordOf_83 : decode cX1_wordOf 83 = .ok (.areturn, 1) := by decide +kernel
theorem dX1_wordOf_84 : decode cX1_wordOf 84 = .ok (.ldc 116, 2) := by decide +kernel
theorem dX1_wordOf_86 : decode cX1_wordOf 86 = .ok (.areturn, 1) := by decide +kernel
theorem dX1_wordOf_87 : decode cX1_wordOf 87 = .ok (.ldc 118, 2) := by decide +kernel
theorem dX1_wordOf_89 : decode cX1_wordOf 89 = .ok (.areturn, 1) := by decide +kernel
theorem dX1_wordOf_90 : decode cX1_wordOf 90 = .ok (.ldc 120, 2) := by decide +kernel
theorem dX1_wordOf_92 : decode cX1_wordOf 92 = .ok (.areturn, 1) := by decide +kernel
theorem dX1_wordOf_93 : decode cX1_wordOf 93 = .ok (.ldc 122, 2) := by decide +kernel
theorem dX1_wordOf_95 : decode cX1_wordOf 95 = .ok (.areturn, 1) := by decide +kernel
abbrev cX1_isSmall : ByteArray := prog_3_method_13_code
abbrev mX1_isSmall : MethodName := { cls := "KinInTheHeap$Reader", name := "isSmall", desc := "(I)Z" }
theorem mwX1_isSmall : MWS mX1_isSmall (.code mX1_isSmall cX1_isSmall 1 (some .boolean)) 1 := ⟨w433, w432, w99, by decide +kernel⟩
theorem dX1_isSmall_0 : decode cX1_isSmall 0 = .ok (.iload_n 0, 1) := by decide +kernel
theorem dX1_isSmall_1 : decode cX1_isSmall 1 = .ok (.bipush 97, 2) := by decide +kernel
theorem dX1_isSmall_3 : decode cX1_isSmall 3 = .ok (.bipush 122, 2) := by decide +kernel
theorem dX1_isSmall_5 : decode cX1_isSmall 5 = .ok (.invokestatic 124, 3) := by decide +kernel
theorem dX1_isSmall_8 : decode cX1_isSmall 8 = .ok (.ireturn, 1) := by decide +kernel
abbrev cX1_isDigit : ByteArray := prog_3_method_14_code
abbrev mX1_isDigit : MethodName := { cls := "KinInTheHeap$Reader", name := "isDigit", desc := "(I)Z" }
theorem mwX1_isDigit : MWS mX1_isDigit (.code mX1_isDigit cX1_isDigit 1 (some .boolean)) 1 := ⟨w437, w436, w99, by decide +kernel⟩
theorem dX1_isDigit_0 : decode cX1_isDigit 0 = .ok (.iload_n 0, 1) := by decide +kernel
theorem dX1_isDigit_1 : decode cX1_isDigit 1 = .ok (.bipush 48, 2) := by decide +kernel
theorem dX1_isDigit_3 : decode cX1_isDigit 3 = .ok (.bipush 57, 2) := by decide +kernel
theorem dX1_isDigit_5 : decode cX1_isDigit 5 = .ok (.invokestatic 124, 3) := by decide +kernel
theorem dX1_isDigit_8 : decode cX1_isDigit 8 = .ok (.ireturn, 1) := by decide +kernel
abbrev cX1_isToken : ByteArray := prog_3_method_15_code
abbrev mX1_isToken : MethodName := { cls := "KinInTheHeap$Reader", name := "isToken", desc := "(I)Z" }
theorem mwX1_isToken : MWV mX1_isToken (.code mX1_isToken cX1_isToken 2 (some .boolean)) "KinInTheHeap$Reader" 1 := ⟨w585, w584, w17, w99, w99, by decide +kernel⟩
theorem dX1_isToken_0 : decode cX1_isToken 0 = .ok (.aload_n 0, 1) := by decide +kernel
theorem dX1_isToken_1 : decode cX1_isToken 1 = .ok (.getfield 36, 3) := by decide +kernel
theorem dX1_isToken_4 : decode cX1_isToken 4 = .ok (.aload_n 0, 1) := by decide +kernel
theorem dX1_isToken_5 : decode cX1_isToken 5 = .ok (.getfield 51, 3) := by decide +kernel
theorem dX1_isToken_8 : decode cX1_isToken 8 = .ok (.if_icmp .ge 20, 3) := by decide +kernel
theorem dX1_isToken_11 : decode cX1_isToken 11 = .ok (.aload_n 0, 1) := by decide +kernel
theorem dX1_isToken_12 : decode cX1_isToken 12 = .ok (.getfield 15, 3) := by decide +kernel
theorem dX1_isToken_15 : decode cX1_isToken 15 = .ok (.aload_n 0, 1) := by decide +kernel
theorem dX1_isToken_16 : decode cX1_isToken 16 = .ok (.getfield 36, 3) := by decide +kernel
theorem dX1_isToken_19 : decode cX1_isToken 19 = .ok (.iaload, 1) := by decide +kernel
theorem dX1_isToken_20 : decode cX1_isToken 20 = .ok (.iload_n 1, 1) := by decide +kernel
theorem dX1_isToken_21 : decode cX1_isToken 21 = .ok (.if_icmp .ne 7, 3) := by decide +kernel
theorem dX1_isToken_24 : decode cX1_isToken 24 = .ok (.iconst 1, 1) := by decide +kernel
theorem dX1_isToken_25 : decode cX1_isToken 25 = .ok (.goto 4, 3) := by decide +kernel
theorem dX1_isToken_28 : decode cX1_isToken 28 = .ok (.iconst 0, 1) := by decide +kernel
theorem dX1_isToken_29 : decode cX1_isToken 29 = .ok (.ireturn, 1) := by decide +kernel
abbrev cX1_placeOfToken : ByteArray := prog_3_method_16_code
abbrev mX1_placeOfToken : MethodName := { cls := "KinInTheHeap$Reader", name := "placeOfToken", desc := "()I" }
theorem mwX1_placeOfToken : MWV mX1_placeOfToken (.code mX1_placeOfToken cX1_placeOfToken 1 (some .int)) "KinInTheHeap$Reader" 0 := ⟨w622, w621, w25, w99, w99, by decide +kernel⟩
theorem dX1_placeOfToken_0 : decode cX1_placeOfToken 0 = .ok (.aload_n 0, 1) := by decide +kernel
theorem dX1_placeOfToken_1 : decode cX1_placeOfToken 1 = .ok (.getfield 36, 3) := by decide +kernel
theorem dX1_placeOfToken_4 : decode cX1_placeOfToken 4 = .ok (.aload_n 0, 1) := by decide +kernel
theorem dX1_placeOfToken_5 : decode cX1_placeOfToken 5 = .ok (.getfield 51, 3) := by decide +kernel
theorem dX1_placeOfToken_8 : decode cX1_placeOfToken 8 = .ok (.if_icmp .ge 15, 3) := by decide +kernel
theorem dX1_placeOfToken_11 : decode cX1_placeOfToken 11 = .ok (.aload_n 0, 1) := by decide +kernel
theorem dX1_placeOfToken_12 : decode cX1_placeOfToken 12 = .ok (.getfield 18, 3) := by decide +kernel
theorem dX1_placeOfToken_15 : decode cX1_placeOfToken 15 = .ok (.aload_n 0, 1) := by decide +kernel
theorem dX1_placeOfToken_16 : decode cX1_placeOfToken 16 = .ok (.getfield 36, 3) := by decide +kernel
theorem dX1_placeOfToken_19 : decode cX1_placeOfToken 19 = .ok (.iaload, 1) := by decide +kernel
theorem dX1_placeOfToken_20 : decode cX1_placeOfToken 20 = .ok (.goto 7, 3) := by decide +kernel
theorem dX1_placeOfToken_23 : decode cX1_placeOfToken 23 = .ok (.aload_n 0, 1) := by decide +kernel
theorem dX1_placeOfToken_24 : decode cX1_placeOfToken 24 = .ok (.getfield 24, 3) := by decide +kernel
theorem dX1_placeOfToken_27 : decode cX1_placeOfToken 27 = .ok (.ireturn, 1) := by decide +kernel
abbrev cX1_readPart : ByteArray := prog_3_method_17_code
abbrev mX1_readPart : MethodName := { cls := "KinInTheHeap$Reader", name := "readPart", desc := "(ILKinInTheHeap$Text;)Z" }
theorem mwX1_readPart : MWV mX1_readPart (.code mX1_readPart cX1_readPart 5 (some .boolean)) "KinInTheHeap$Reader" 2 := ⟨w581, w580, w16, w99, w99, by decide +kernel⟩
theorem dX1_readPart_0 : decode cX1_readPart 0 = .ok (.aload_n 0, 1) := by decide +kernel
theorem dX1_readPart_1 : decode cX1_readPart 1 = .ok (.iload_n 1, 1) := by decide +kernel
theorem dX1_readPart_2 : decode cX1_readPart 2 = .ok (.invokevirtual 47, 3) := by decide +kernel
theorem dX1_readPart_5 : decode cX1_readPart 5 = .ok (.ifCond .ne 5, 3) := by decide +kernel
theorem dX1_readPart_8 : decode cX1_readPart 8 = .ok (.iconst 0, 1) := by decide +kernel
theorem dX1_readPart_9 : decode cX1_readPart 9 = .ok (.ireturn, 1) := by decide +kernel
theorem dX1_readPart_10 : decode cX1_readPart 10 = .ok (.aload_n 0, 1) := by decide +kernel
theorem dX1_readPart_11 : decode cX1_readPart 11 = .ok (.iconst 0, 1) := by decide +kernel
theorem dX1_readPart_12 : decode cX1_readPart 12 = .ok (.putfield 128, 3) := by decide +kernel
theorem dX1_readPart_15 : decode cX1_readPart 15 = .ok (.aload_n 0, 1) := by decide +kernel
theorem dX1_readPart_16 : decode cX1_readPart 16 = .ok (.iconst 0, 1) := by decide +kernel
theorem dX1_readPart_17 : decode cX1_readPart 17 = .ok (.putfield 131, 3) := by decide +kernel
theorem dX1_readPart_20 : decode cX1_readPart 20 = .ok (.iconst 1, 1) := by decide +kernel
theorem dX1_readPart_21 : decode cX1_readPart 21 = .ok (.istore_n 3, 1) := by decide +kernel
theorem dX1_readPart_22 : decode cX1_readPart 22 = .ok (.aload_n 0, 1) := by decide +kernel
theorem dX1_readPart_23 : decode cX1_readPart 23 = .ok (.dup, 1) := by decide +kernel
theorem dX1_readPart_24 : decode cX1_readPart 24 = .ok (.getfield 36, 3) := by decide +kernel
theorem dX1_readPart_27 : decode cX1_readPart 27 = .ok (.iconst 1, 1) := by decide +kernel
theorem dX1_readPart_28 : decode cX1_readPart 28 = .ok (.iadd, 1) := by decide +kernel
theorem dX1_readPart_29 : decode cX1_readPart 29 = .ok (.putfield 36, 3) := by decide +kernel
theorem dX1_readPart_32 : decode cX1_readPart 32 = .ok (.aload_n 0, 1) := by decide +kernel
theorem dX1_readPart_33 : decode cX1_readPart 33 = .ok (.getfield 36, 3) := by decide +kernel
theorem dX1_readPart_36 : decode cX1_readPart 36 = .ok (.aload_n 0, 1) := by decide +kernel
theorem dX1_readPart_37 : decode cX1_readPart 37 = .ok (.getfield 51, 3) := by decide +kernel
theorem dX1_readPart_40 : decode cX1_readPart 40 = .ok (.if_icmp .ge 106, 3) := by decide +kernel
theorem dX1_readPart_43 : decode cX1_readPart 43 = .ok (.aload_n 0, 1) := by decide +kernel
theorem dX1_readPart_44 : decode cX1_readPart 44 = .ok (.getfield 15, 3) := by decide +kernel
theorem dX1_readPart_47 : decode cX1_readPart 47 = .ok (.aload_n 0, 1) := by decide +kernel
theorem dX1_readPart_48 : decode cX1_readPart 48 = .ok (.getfield 36, 3) := by decide +kernel
theorem dX1_readPart_51 : decode cX1_readPart 51 = .ok (.iaload, 1) := by decide +kernel
theorem dX1_readPart_52 : decode cX1_readPart 52 = .ok (.istore 4, 2) := by decide +kernel
theorem dX1_readPart_54 : decode cX1_readPart 54 = .ok (.iload_n 3, 1) := by decide +kernel
theorem dX1_readPart_55 : decode cX1_readPart 55 = .ok (.ifCond .eq 19, 3) := by decide +kernel
theorem dX1_readPart_58 : decode cX1_readPart 58 = .ok (.iload 4, 2) := by decide +kernel
theorem dX1_readPart_60 : decode cX1_readPart 60 = .ok (.ifCond .lt 14, 3) := by decide +kernel
theorem dX1_readPart_63 : decode cX1_readPart 63 = .ok (.aload_n 2, 1) := by decide +kernel
theorem dX1_readPart_64 : decode cX1_readPart 64 = .ok (.iload 4, 2) := by decide +kernel
theorem dX1_readPart_66 : decode cX1_readPart 66 = .ok (.invokevirtual 134, 3) := by decide +kernel
theorem dX1_readPart_69 : decode cX1_readPart 69 = .ok (.iconst 0, 1) := by decide +kernel
theorem dX1_readPart_70 : decode cX1_readPart 70 = .ok (.istore_n 3, 1) := by decide +kernel
theorem dX1_readPart_71 : decode cX1_readPart 71 = .ok (.goto 62, 3) := by decide +kernel
theorem dX1_readPart_74 : decode cX1_readPart 74 = .ok (.iload_n 3, 1) := by decide +kernel
theorem dX1_readPart_75 : decode cX1_readPart 75 = .ok (.ifCond .eq 14, 3) := by decide +kernel
theorem dX1_readPart_78 : decode cX1_readPart 78 = .ok (.aload_n 0, 1) := by decide +kernel
theorem dX1_readPart_79 : decode cX1_readPart 79 = .ok (.iload 4, 2) := by decide +kernel
theorem dX1_readPart_81 : decode cX1_readPart 81 = .ok (.invokevirtual 138, 3) := by decide +kernel
theorem dX1_readPart_84 : decode cX1_readPart 84 = .ok (.ifCond .ne 49, 3) := by decide +kernel
theorem dX1_readPart_87 : decode cX1_readPart 87 = .ok (.iconst 0, 1) := by decide +kernel
theorem dX1_readPart_88 : decode cX1_readPart 88 = .ok (.ireturn, 1) := by decide +kernel
theorem dX1_readPart_89 : decode cX1_readPart 89 = .ok (.iload 4, 2) := by decide +kernel
theorem dX1_readPart_91 : decode cX1_readPart 91 = .ok (.bipush (-12), 2) := by decide +kernel
theorem dX1_readPart_93 : decode cX1_readPart 93 = .ok (.if_icmp .ne 9, 3) := by decide +kernel
theorem dX1_readPart_96 : decode cX1_readPart 96 = .ok (.aload_n 0, 1) := by decide +kernel
theorem dX1_readPart_97 : decode cX1_readPart 97 = .ok (.aload_n 2, 1) := by decide +kernel
theorem dX1_readPart_98 : decode cX1_readPart 98 = .ok (.invokevirtual 141, 3) := by decide +kernel
theorem dX1_readPart_101 : decode cX1_readPart 101 = .ok (.ireturn, 1) := by decide +kernel
theorem dX1_readPart_102 : decode cX1_readPart 102 = .ok (.iload 4, 2) := by decide +kernel
theorem dX1_readPart_104 : decode cX1_readPart 104 = .ok (.bipush (-11), 2) := by decide +kernel
theorem dX1_readPart_106 : decode cX1_readPart 106 = .ok (.if_icmp .ne 13, 3) := by decide +kernel
theorem dX1_readPart_109 : decode cX1_readPart 109 = .ok (.aload_n 0, 1) := by decide +kernel
theorem dX1_readPart_110 : decode cX1_readPart 110 = .ok (.aload_n 2, 1) := by decide +kernel
theorem dX1_readPart_111 : decode cX1_readPart 111 = .ok (.invokevirtual 145, 3) := by decide +kernel
theorem dX1_readPart_114 : decode cX1_readPart 114 = .ok (.ifCond .ne 19, 3) := by decide +kernel
theorem dX1_readPart_117 : decode cX1_readPart 117 = .ok (.iconst 0, 1) := by decide +kernel
theorem dX1_readPart_118 : decode cX1_readPart 118 = .ok (.ireturn, 1) := by decide +kernel
theorem dX1_readPart_119 : decode cX1_readPart 119 = .ok (.aload_n 0, 1) := by decide +kernel
theorem dX1_readPart_120 : decode cX1_readPart 120 = .ok (.iload 4, 2) := by decide +kernel
theorem dX1_readPart_122 : decode cX1_readPart 122 = .ok (.aload_n 2, 1) := by decide +kernel
theorem dX1_readPart_123 : decode cX1_readPart 123 = .ok (.invokevirtual 148, 3) := by decide +kernel
theorem dX1_readPart_126 : decode cX1_readPart 126 = .ok (.ifCond .ne 5, 3) := by decide +kernel
theorem dX1_readPart_129 : decode cX1_readPart 129 = .ok (.iconst 0, 1) := by decide +kernel
theorem dX1_readPart_130 : decode cX1_readPart 130 = .ok (.ireturn, 1) := by decide +kernel
theorem dX1_readPart_131 : decode cX1_readPart 131 = .ok (.iconst 1, 1) := by decide +kernel
theorem dX1_readPart_132 : decode cX1_readPart 132 = .ok (.istore_n 3, 1) := by decide +kernel
theorem dX1_readPart_133 : decode cX1_readPart 133 = .ok (.aload_n 0, 1) := by decide +kernel
theorem dX1_readPart_134 : decode cX1_readPart 134 = .ok (.dup, 1) := by decide +kernel
theorem dX1_readPart_135 : decode cX1_readPart 135 = .ok (.getfield 36, 3) := by decide +kernel
theorem dX1_readPart_138 : decode cX1_readPart 138 = .ok (.iconst 1, 1) := by decide +kernel
theorem dX1_readPart_139 : decode cX1_readPart 139 = .ok (.iadd, 1) := by decide +kernel
theorem dX1_readPart_140 : decode cX1_readPart 140 = .ok (.putfield 36, 3) := by decide +kernel
theorem dX1_readPart_143 : decode cX1_readPart 143 = .ok (.goto (-111), 3) := by decide +kernel
theorem dX1_readPart_146 : decode cX1_readPart 146 = .ok (.iconst 0, 1) := by decide +kernel
theorem dX1_readPart_147 : decode cX1_readPart 147 = .ok (.ireturn, 1) := by decide +kernel
abbrev cX1_opens : ByteArray := prog_3_method_18_code
abbrev mX1_opens : MethodName := { cls := "KinInTheHeap$Reader", name := "opens", desc := "(I)Z" }
theorem mwX1_opens : MWV mX1_opens (.code mX1_opens cX1_opens 3 (some .boolean)) "KinInTheHeap$Reader" 1 := ⟨w590, w589, w18, w99, w99, by decide +kernel⟩
theorem dX1_opens_0 : decode cX1_opens 0 = .ok (.iload_n 1, 1) := by decide +kernel
theorem dX1_opens_1 : decode cX1_opens 1 = .ok (.bipush (-10), 2) := by decide +kernel
theorem dX1_opens_3 : decode cX1_opens 3 = .ok (.if_icmp .eq 27, 3) := by decide +kernel
theorem dX1_opens_6 : decode cX1_opens 6 = .ok (.iload_n 1, 1) := by decide +kernel
theorem dX1_opens_7 : decode cX1_opens 7 = .ok (.bipush (-14), 2) := by decide +kernel
theorem dX1_opens_9 : decode cX1_opens 9 = .ok (.if_icmp .eq 21, 3) := by decide +kernel
theorem dX1_opens_12 : decode cX1_opens 12 = .ok (.iload_n 1, 1) := by decide +kernel
theorem dX1_opens_13 : decode cX1_opens 13 = .ok (.bipush (-8), 2) := by decide +kernel
theorem dX1_opens_15 : decode cX1_opens 15 = .ok (.if_icmp .ne 19, 3) := by decide +kernel
theorem dX1_opens_18 : decode cX1_opens 18 = .ok (.aload_n 0, 1) := by decide +kernel
theorem dX1_opens_19 : decode cX1_opens 19 = .ok (.invokevirtual 151, 3) := by decide +kernel
theorem dX1_opens_22 : decode cX1_opens 22 = .ok (.bipush (-8), 2) := by decide +kernel
theorem dX1_opens_24 : decode cX1_opens 24 = .ok (.invokestatic 154, 3) := by decide +kernel
theorem dX1_opens_27 : decode cX1_opens 27 = .ok (.if_icmp .gt 7, 3) := by decide +kernel
theorem dX1_opens_30 : decode cX1_opens 30 = .ok (.iconst 1, 1) := by decide +kernel
theorem dX1_opens_31 : decode cX1_opens 31 = .ok (.goto 4, 3) := by decide +kernel
theorem dX1_opens_34 : decode cX1_opens 34 = .ok (.iconst 0, 1) := by decide +kernel
theorem dX1_opens_35 : decode cX1_opens 35 = .ok (.istore_n 2, 1) := by decide +kernel
theorem dX1_opens_36 : decode cX1_opens 36 = .ok (.iload_n 2, 1) := by decide +kernel
theorem dX1_opens_37 : decode cX1_opens 37 = .ok (.ifCond .eq 11, 3) := by decide +kernel
theorem dX1_opens_40 : decode cX1_opens 40 = .ok (.aload_n 0, 1) := by decide +kernel
theorem dX1_opens_41 : decode cX1_opens 41 = .ok (.getfield 131, 3) := by decide +kernel
theorem dX1_opens_44 : decode cX1_opens 44 = .ok (.iconst 5, 1) := by decide +kernel
theorem dX1_opens_45 : decode cX1_opens 45 = .ok (.if_icmp .lt 5, 3) := by decide +kernel
theorem dX1_opens_48 : decode cX1_opens 48 = .ok (.iconst 0, 1) := by decide +kernel
theorem dX1_opens_49 : decode cX1_opens 49 = .ok (.ireturn, 1) := by decide +kernel
theorem dX1_opens_50 : decode cX1_opens 50 = .ok (.aload_n 0, 1) := by decide +kernel
theorem dX1_opens_51 : decode cX1_opens 51 = .ok (.dup, 1) := by decide +kernel
theorem dX1_opens_52 : decode cX1_opens 52 = .ok (.getfield 131, 3) := by decide +kernel
theorem dX1_opens_55 : decode cX1_opens 55 = .ok (.iconst 1, 1) := by decide +kernel
theorem dX1_opens_56 : decode cX1_opens 56 = .ok (.iadd, 1) := by decide +kernel
theorem dX1_opens_57 : decode cX1_opens 57 = .ok (.putfield 131, 3) := by decide +kernel
theorem dX1_opens_60 : decode cX1_opens 60 = .ok (.aload_n 0, 1) := by decide +kernel
theorem dX1_opens_61 : decode cX1_opens 61 = .ok (.iload_n 1, 1) := by decide +kernel
theorem dX1_opens_62 : decode cX1_opens 62 = .ok (.bipush (-14), 2) := by decide +kernel
theorem dX1_opens_64 : decode cX1_opens 64 = .ok (.if_icmp .ne 8, 3) := by decide +kernel
theorem dX1_opens_67 : decode cX1_opens 67 = .ok (.bipush (-18), 2) := by decide +kernel
theorem dX1_opens_69 : decode cX1_opens 69 = .ok (.goto 4, 3) := by decide +kernel
theorem dX1_opens_72 : decode cX1_opens 72 = .ok (.iload_n 1, 1) := by decide +kernel
theorem dX1_opens_73 : decode cX1_opens 73 = .ok (.invokevirtual 157, 3) := by decide +kernel
theorem dX1_opens_76 : decode cX1_opens 76 = .ok (.iconst 1, 1) := by decide +kernel
theorem dX1_opens_77 : decode cX1_opens 77 = .ok (.ireturn, 1) := by decide +kernel
abbrev cX1_ends : ByteArray := prog_3_method_19_code
abbrev mX1_ends : MethodName := { cls := "KinInTheHeap$Reader", name := "ends", desc := "(LKinInTheHeap$Text;)Z" }
theorem mwX1_ends : MWV mX1_ends (.code mX1_ends cX1_ends 2 (some .boolean)) "KinInTheHeap$Reader" 1 := ⟨w605, w604, w21, w99, w99, by decide +kernel⟩
theorem dX1_ends_0 : decode cX1_ends 0 = .ok (.aload_n 0, 1) := by decide +kernel
theorem dX1_ends_1 : decode cX1_ends 1 = .ok (.bipush (-6), 2) := by decide +kernel
theorem dX1_ends_3 : decode cX1_ends 3 = .ok (.invokestatic 154, 3) := by decide +kernel
theorem dX1_ends_6 : decode cX1_ends 6 = .ok (.aload_n 1, 1) := by decide +kernel
theorem dX1_ends_7 : decode cX1_ends 7 = .ok (.invokevirtual 160, 3) := by decide +kernel
theorem dX1_ends_10 : decode cX1_ends 10 = .ok (.aload_n 0, 1) := by decide +kernel
theorem dX1_ends_11 : decode cX1_ends 11 = .ok (.getfield 128, 3) := by decide +kernel
theorem dX1_ends_14 : decode cX1_ends 14 = .ok (.ifCond .le 5, 3) := by decide +kernel
theorem dX1_ends_17 : decode cX1_ends 17 = .ok (.iconst 0, 1) := by decide +kernel
theorem dX1_ends_18 : decode cX1_ends 18 = .ok (.ireturn, 1) := by decide +kernel
theorem dX1_ends_19 : decode cX1_ends 19 = .ok (.aload_n 1, 1) := by decide +kernel
theorem dX1_ends_20 : decode cX1_ends 20 = .ok (.invokevirtual 164, 3) := by decide +kernel
theorem dX1_ends_23 : decode cX1_ends 23 = .ok (.aload_n 0, 1) := by decide +kernel
theorem dX1_ends_24 : decode cX1_ends 24 = .ok (.dup, 1) := by decide +kernel
theorem dX1_ends_25 : decode cX1_ends 25 = .ok (.getfield 36, 3) := by decide +kernel
theorem dX1_ends_28 : decode cX1_ends 28 = .ok (.iconst 1, 1) := by decide +kernel
theorem dX1_ends_29 : decode cX1_ends 29 = .ok (.iadd, 1) := by decide +kernel
theorem dX1_ends_30 : decode cX1_ends 30 = .ok (.putfield 36, 3) := by decide +kernel
theorem dX1_ends_33 : decode cX1_ends 33 = .ok (.iconst 1, 1) := by decide +kernel
theorem dX1_ends_34 : decode cX1_ends 34 = .ok (.ireturn, 1) := by decide +kernel
abbrev cX1_closes : ByteArray := prog_3_method_20_code
abbrev mX1_closes : MethodName := { cls := "KinInTheHeap$Reader", name := "closes", desc := "(LKinInTheHeap$Text;)Z" }
theorem mwX1_closes : MWV mX1_closes (.code mX1_closes cX1_closes 2 (some .boolean)) "KinInTheHeap$Reader" 1 := ⟨w614, w613, w23, w99, w99, by decide +kernel⟩
theorem dX1_closes_0 : decode cX1_closes 0 = .ok (.aload_n 0, 1) := by decide +kernel
theorem dX1_closes_1 : decode cX1_closes 1 = .ok (.bipush (-6), 2) := by decide +kernel
theorem dX1_closes_3 : decode cX1_closes 3 = .ok (.invokestatic 154, 3) := by decide +kernel
theorem dX1_closes_6 : decode cX1_closes 6 = .ok (.aload_n 1, 1) := by decide +kernel
theorem dX1_closes_7 : decode cX1_closes 7 = .ok (.invokevirtual 160, 3) := by decide +kernel
theorem dX1_closes_10 : decode cX1_closes 10 = .ok (.aload_n 0, 1) := by decide +kernel
theorem dX1_closes_11 : decode cX1_closes 11 = .ok (.getfield 128, 3) := by decide +kernel
theorem dX1_closes_14 : decode cX1_closes 14 = .ok (.ifCond .gt 5, 3) := by decide +kernel
theorem dX1_closes_17 : decode cX1_closes 17 = .ok (.iconst 0, 1) := by decide +kernel
theorem dX1_closes_18 : decode cX1_closes 18 = .ok (.ireturn, 1) := by decide +kernel
theorem dX1_closes_19 : decode cX1_closes 19 = .ok (.aload_n 0, 1) := by decide +kernel
theorem dX1_closes_20 : decode cX1_closes 20 = .ok (.dup, 1) := by decide +kernel
theorem dX1_closes_21 : decode cX1_closes 21 = .ok (.getfield 128, 3) := by decide +kernel
theorem dX1_closes_24 : decode cX1_closes 24 = .ok (.iconst 1, 1) := by decide +kernel
theorem dX1_closes_25 : decode cX1_closes 25 = .ok (.isub, 1) := by decide +kernel
theorem dX1_closes_26 : decode cX1_closes 26 = .ok (.putfield 128, 3) := by decide +kernel
theorem dX1_closes_29 : decode cX1_closes 29 = .ok (.aload_n 0, 1) := by decide +kernel
theorem dX1_closes_30 : decode cX1_closes 30 = .ok (.dup, 1) := by decide +kernel
theorem dX1_closes_31 : decode cX1_closes 31 = .ok (.getfield 131, 3) := by decide +kernel
theorem dX1_closes_34 : decode cX1_closes 34 = .ok (.iconst 1, 1) := by decide +kernel
theorem dX1_closes_35 : decode cX1_closes 35 = .ok (.isub, 1) := by decide +kernel
theorem dX1_closes_36 : decode cX1_closes 36 = .ok (.putfield 131, 3) := by decide +kernel
theorem dX1_closes_39 : decode cX1_closes 39 = .ok (.iconst 1, 1) := by decide +kernel
theorem dX1_closes_40 : decode cX1_closes 40 = .ok (.ireturn, 1) := by decide +kernel
abbrev cX1_joins : ByteArray := prog_3_method_21_code
abbrev mX1_joins : MethodName := { cls := "KinInTheHeap$Reader", name := "joins", desc := "(ILKinInTheHeap$Text;)Z" }
theorem mwX1_joins : MWV mX1_joins (.code mX1_joins cX1_joins 4 (some .boolean)) "KinInTheHeap$Reader" 2 := ⟨w618, w617, w24, w99, w99, by decide +kernel⟩
theorem dX1_joins_0 : decode cX1_joins 0 = .ok (.iload_n 1, 1) := by decide +kernel
theorem dX1_joins_1 : decode cX1_joins 1 = .ok (.invokestatic 154, 3) := by decide +kernel
theorem dX1_joins_4 : decode cX1_joins 4 = .ok (.istore_n 3, 1) := by decide +kernel
theorem dX1_joins_5 : decode cX1_joins 5 = .ok (.iload_n 3, 1) := by decide +kernel
theorem dX1_joins_6 : decode cX1_joins 6 = .ok (.ifCond .lt 15, 3) := by decide +kernel
theorem dX1_joins_9 : decode cX1_joins 9 = .ok (.iload_n 1, 1) := by decide +kernel
theorem dX1_joins_10 : decode cX1_joins 10 = .ok (.bipush (-10), 2) := by decide +kernel
theorem dX1_joins_12 : decode cX1_joins 12 = .ok (.if_icmp .eq 9, 3) := by decide +kernel
theorem dX1_joins_15 : decode cX1_joins 15 = .ok (.iload_n 1, 1) := by decide +kernel
theorem dX1_joins_16 : decode cX1_joins 16 = .ok (.bipush (-8), 2) := by decide +kernel
theorem dX1_joins_18 : decode cX1_joins 18 = .ok (.if_icmp .ne 5, 3) := by decide +kernel
theorem dX1_joins_21 : decode cX1_joins 21 = .ok (.iconst 0, 1) := by decide +kernel
theorem dX1_joins_22 : decode cX1_joins 22 = .ok (.ireturn, 1) := by decide +kernel
theorem dX1_joins_23 : decode cX1_joins 23 = .ok (.iload_n 3, 1) := by decide +kernel
theorem dX1_joins_24 : decode cX1_joins 24 = .ok (.bipush (-16), 2) := by decide +kernel
theorem dX1_joins_26 : decode cX1_joins 26 = .ok (.invokestatic 154, 3) := by decide +kernel
theorem dX1_joins_29 : decode cX1_joins 29 = .ok (.if_icmp .eq 12, 3) := by decide +kernel
theorem dX1_joins_32 : decode cX1_joins 32 = .ok (.aload_n 0, 1) := by decide +kernel
theorem dX1_joins_33 : decode cX1_joins 33 = .ok (.iload_n 3, 1) := by decide +kernel
theorem dX1_joins_34 : decode cX1_joins 34 = .ok (.aload_n 2, 1) := by decide +kernel
theorem dX1_joins_35 : decode cX1_joins 35 = .ok (.invokevirtual 160, 3) := by decide +kernel
theorem dX1_joins_38 : decode cX1_joins 38 = .ok (.goto 21, 3) := by decide +kernel
theorem dX1_joins_41 : decode cX1_joins 41 = .ok (.aload_n 0, 1) := by decide +kernel
theorem dX1_joins_42 : decode cX1_joins 42 = .ok (.iload_n 3, 1) := by decide +kernel
theorem dX1_joins_43 : decode cX1_joins 43 = .ok (.iconst 1, 1) := by decide +kernel
theorem dX1_joins_44 : decode cX1_joins 44 = .ok (.iadd, 1) := by decide +kernel
theorem dX1_joins_45 : decode cX1_joins 45 = .ok (.aload_n 2, 1) := by decide +kernel
theorem dX1_joins_46 : decode cX1_joins 46 = .ok (.invokevirtual 160, 3) := by decide +kernel
theorem dX1_joins_49 : decode cX1_joins 49 = .ok (.aload_n 0, 1) := by decide +kernel
theorem dX1_joins_50 : decode cX1_joins 50 = .ok (.invokevirtual 151, 3) := by decide +kernel
theorem dX1_joins_53 : decode cX1_joins 53 = .ok (.iload_n 3, 1) := by decide +kernel
theorem dX1_joins_54 : decode cX1_joins 54 = .ok (.if_icmp .ne 5, 3) := by decide +kernel
theorem dX1_joins_57 : decode cX1_joins 57 = .ok (.iconst 0, 1) := by decide +kernel
theorem dX1_joins_58 : decode cX1_joins 58 = .ok (.ireturn, 1) := by decide +kernel
theorem dX1_joins_59 : decode cX1_joins 59 = .ok (.aload_n 0, 1) := by decide +kernel
theorem dX1_joins_60 : decode cX1_joins 60 = .ok (.iload_n 1, 1) := by decide +kernel
theorem dX1_joins_61 : decode cX1_joins 61 = .ok (.invokevirtual 157, 3) := by decide +kernel
theorem dX1_joins_64 : decode cX1_joins 64 = .ok (.iconst 1, 1) := by decide +kernel
theorem dX1_joins_65 : decode cX1_joins 65 = .ok (.ireturn, 1) := by decide +kernel
abbrev cX1_putToWait : ByteArray := prog_3_method_22_code
abbrev mX1_putToWait : MethodName := { cls := "KinInTheHeap$Reader", name := "putToWait", desc := "(I)V" }
theorem mwX1_putToWait : MWV mX1_putToWait (.code mX1_putToWait cX1_putToWait 2 none) "KinInTheHeap$Reader" 1 := ⟨w601, w600, w20, w99, w99, by decide +kernel⟩
theorem dX1_putToWait_0 : decode cX1_putToWait 0 = .ok (.aload_n 0, 1) := by decide +kernel
theorem dX1_putToWait_1 : decode cX1_putToWait 1 = .ok (.getfield 128, 3) := by decide +kernel
theorem dX1_putToWait_4 : decode cX1_putToWait 4 = .ok (.sipush 160, 3) := by decide +kernel
theorem dX1_putToWait_7 : decode cX1_putToWait 7 = .ok (.if_icmp .ge 23, 3) := by decide +kernel
theorem dX1_putToWait_10 : decode cX1_putToWait 10 = .ok (.aload_n 0, 1) := by decide +kernel
theorem dX1_putToWait_11 : decode cX1_putToWait 11 = .ok (.getfield 21, 3) := by decide +kernel
theorem dX1_putToWait_14 : decode cX1_putToWait 14 = .ok (.aload_n 0, 1) := by decide +kernel
theorem dX1_putToWait_15 : decode cX1_putToWait 15 = .ok (.getfield 128, 3) := by decide +kernel
theorem dX1_putToWait_18 : decode cX1_putToWait 18 = .ok (.iload_n 1, 1) := by decide +kernel
theorem dX1_putToWait_19 : decode cX1_putToWait 19 = .ok (.iastore, 1) := by decide +kernel
theorem dX1_putToWait_20 : decode cX1_putToWait 20 = .ok (.aload_n 0, 1) := by decide +kernel
theorem dX1_putToWait_21 : decode cX1_putToWait 21 = .ok (.dup, 1) := by decide +kernel
theorem dX1_putToWait_22 : decode cX1_putToWait 22 = .ok (.getfield 128, 3) := by decide +kernel
theorem dX1_putToWait_25 : decode cX1_putToWait 25 = .ok (.iconst 1, 1) := by decide +kernel
theorem dX1_putToWait_26 : decode cX1_putToWait 26 = .ok (.iadd, 1) := by decide +kernel
theorem dX1_putToWait_27 : decode cX1_putToWait 27 = .ok (.putfield 128, 3) := by decide +kernel
theorem dX1_putToWait_30 : decode cX1_putToWait 30 = .ok (.return_, 1) := by decide +kernel
abbrev cX1_letGo : ByteArray := prog_3_method_23_code
abbrev mX1_letGo : MethodName := { cls := "KinInTheHeap$Reader", name := "letGo", desc := "(ILKinInTheHeap$Text;)V" }
theorem mwX1_letGo : MWV mX1_letGo (.code mX1_letGo cX1_letGo 4 none) "KinInTheHeap$Reader" 2 := ⟨w609, w608, w22, w99, w99, by decide +kernel⟩
theorem dX1_letGo_0 : decode cX1_letGo 0 = .ok (.aload_n 0, 1) := by decide +kernel
theorem dX1_letGo_1 : decode cX1_letGo 1 = .ok (.getfield 128, 3) := by decide +kernel
theorem dX1_letGo_4 : decode cX1_letGo 4 = .ok (.ifCond .le 61, 3) := by decide +kernel
theorem dX1_letGo_7 : decode cX1_letGo 7 = .ok (.aload_n 0, 1) := by decide +kernel
theorem dX1_letGo_8 : decode cX1_letGo 8 = .ok (.invokevirtual 151, 3) := by decide +kernel
theorem dX1_letGo_11 : decode cX1_letGo 11 = .ok (.iload_n 1, 1) := by decide +kernel
theorem dX1_letGo_12 : decode cX1_letGo 12 = .ok (.if_icmp .lt 53, 3) := by decide +kernel
theorem dX1_letGo_15 : decode cX1_letGo 15 = .ok (.aload_n 0, 1) := by decide +kernel
theorem dX1_letGo_16 : decode cX1_letGo 16 = .ok (.dup, 1) := by decide +kernel
theorem dX1_letGo_17 : decode cX1_letGo 17 = .ok (.getfield 128, 3) := by decide +kernel
theorem dX1_letGo_20 : decode cX1_letGo 20 = .ok (.iconst 1, 1) := by decide +kernel
theorem dX1_letGo_21 : decode cX1_letGo 21 = .ok (.isub, 1) := by decide +kernel
theorem dX1_letGo_22 : decode cX1_letGo 22 = .ok (.putfield 128, 3) := by decide +kernel
theorem dX1_letGo_25 : decode cX1_letGo 25 = .ok (.aload_n 0, 1) := by decide +kernel
theorem dX1_letGo_26 : decode cX1_letGo 26 = .ok (.getfield 21, 3) := by decide +kernel
theorem dX1_letGo_29 : decode cX1_letGo 29 = .ok (.aload_n 0, 1) := by decide +kernel
theorem dX1_letGo_30 : decode cX1_letGo 30 = .ok (.getfield 128, 3) := by decide +kernel
theorem dX1_letGo_33 : decode cX1_letGo 33 = .ok (.iaload, 1) := by decide +kernel
theorem dX1_letGo_34 : decode cX1_letGo 34 = .ok (.istore_n 3, 1) := by decide +kernel
theorem dX1_letGo_35 : decode cX1_letGo 35 = .ok (.iload_n 3, 1) := by decide +kernel
theorem dX1_letGo_36 : decode cX1_letGo 36 = .ok (.bipush (-8), 2) := by decide +kernel
theorem dX1_letGo_38 : decode cX1_letGo 38 = .ok (.if_icmp .eq 9, 3) := by decide +kernel
theorem dX1_letGo_41 : decode cX1_letGo 41 = .ok (.iload_n 3, 1) := by decide +kernel
theorem dX1_letGo_42 : decode cX1_letGo 42 = .ok (.bipush (-18), 2) := by decide +kernel
theorem dX1_letGo_44 : decode cX1_letGo 44 = .ok (.if_icmp .ne 13, 3) := by decide +kernel
theorem dX1_letGo_47 : decode cX1_letGo 47 = .ok (.aload_n 0, 1) := by decide +kernel
theorem dX1_letGo_48 : decode cX1_letGo 48 = .ok (.dup, 1) := by decide +kernel
theorem dX1_letGo_49 : decode cX1_letGo 49 = .ok (.getfield 131, 3) := by decide +kernel
theorem dX1_letGo_52 : decode cX1_letGo 52 = .ok (.iconst 1, 1) := by decide +kernel
theorem dX1_letGo_53 : decode cX1_letGo 53 = .ok (.isub, 1) := by decide +kernel
theorem dX1_letGo_54 : decode cX1_letGo 54 = .ok (.putfield 131, 3) := by decide +kernel
theorem dX1_letGo_57 : decode cX1_letGo 57 = .ok (.aload_n 2, 1) := by decide +kernel
theorem dX1_letGo_58 : decode cX1_letGo 58 = .ok (.iload_n 3, 1) := by decide +kernel
theorem dX1_letGo_59 : decode cX1_letGo 59 = .ok (.invokevirtual 134, 3) := by decide +kernel
theorem dX1_letGo_62 : decode cX1_letGo 62 = .ok (.goto (-62), 3) := by decide +kernel
theorem dX1_letGo_65 : decode cX1_letGo 65 = .ok (.return_, 1) := by decide +kernel
abbrev cX1_lastRank : ByteArray := prog_3_method_24_code
abbrev mX1_lastRank : MethodName := { cls := "KinInTheHeap$Reader", name := "lastRank", desc := "()I" }
theorem mwX1_lastRank : MWV mX1_lastRank (.code mX1_lastRank cX1_lastRank 1 (some .int)) "KinInTheHeap$Reader" 0 := ⟨w594, w593, w19, w99, w99, by decide +kernel⟩
theorem dX1_lastRank_0 : decode cX1_lastRank 0 = .ok (.aload_n 0, 1) := by decide +kernel
theorem dX1_lastRank_1 : decode cX1_lastRank 1 = .ok (.getfield 128, 3) := by decide +kernel
theorem dX1_lastRank_4 : decode cX1_lastRank 4 = .ok (.ifCond .le 20, 3) := by decide +kernel
theorem dX1_lastRank_7 : decode cX1_lastRank 7 = .ok (.aload_n 0, 1) := by decide +kernel
theorem dX1_lastRank_8 : decode cX1_lastRank 8 = .ok (.getfield 21, 3) := by decide +kernel
theorem dX1_lastRank_11 : decode cX1_lastRank 11 = .ok (.aload_n 0, 1) := by decide +kernel
theorem dX1_lastRank_12 : decode cX1_lastRank 12 = .ok (.getfield 128, 3) := by decide +kernel
theorem dX1_lastRank_15 : decode cX1_lastRank 15 = .ok (.iconst 1, 1) := by decide +kernel
theorem dX1_lastRank_16 : decode cX1_lastRank 16 = .ok (.isub, 1) := by decide +kernel
theorem dX1_lastRank_17 : decode cX1_lastRank 17 = .ok (.iaload, 1) := by decide +kernel
theorem dX1_lastRank_18 : decode cX1_lastRank 18 = .ok (.invokestatic 154, 3) := by decide +kernel
theorem dX1_lastRank_21 : decode cX1_lastRank 21 = .ok (.goto 4, 3) := by decide +kernel
theorem dX1_lastRank_24 : decode cX1_lastRank 24 = .ok (.iconst 0, 1) := by decide +kernel
theorem dX1_lastRank_25 : decode cX1_lastRank 25 = .ok (.ireturn, 1) := by decide +kernel
abbrev cX1_rank : ByteArray := prog_3_method_25_code
abbrev mX1_rank : MethodName := { cls := "KinInTheHeap$Reader", name := "rank", desc := "(I)I" }
theorem mwX1_rank : MWS mX1_rank (.code mX1_rank cX1_rank 1 (some .int)) 1 := ⟨w597, w596, w99, by decide +kernel⟩
theorem dX1_rank_0 : decode cX1_rank 0 = .ok (.iload_n 0, 1) := by decide +kernel
theorem dX1_rank_1 : decode cX1_rank 1 = .ok (.tableswitch 85 (-18) (-6) #[82, 75, 75, 79, 77, 77, 85, 85, 67, 85, 73, 71, 69], 67) := by decide +kernel
theorem dX1_rank_68 : decode cX1_rank 68 = .ok (.iconst 0, 1) := by decide +kernel
theorem dX1_rank_69 : decode cX1_rank 69 = .ok (.ireturn, 1) := by decide +kernel
theorem dX1_rank_70 : decode cX1_rank 70 = .ok (.iconst 1, 1) := by decide +kernel
theorem dX1_rank_71 : decode cX1_rank 71 = .ok (.ireturn, 1) := by decide +kernel
theorem dX1_rank_72 : decode cX1_rank 72 = .ok (.iconst 2, 1) := by decide +kernel
theorem dX1_rank_73 : decode cX1_rank 73 = .ok (.ireturn, 1) := by decide +kernel
theorem dX1_rank_74 : decode cX1_rank 74 = .ok (.iconst 3, 1) := by decide +kernel
theorem dX1_rank_75 : decode cX1_rank 75 = .ok (.ireturn, 1) := by decide +kernel
theorem dX1_rank_76 : decode cX1_rank 76 = .ok (.iconst 4, 1) := by decide +kernel
theorem dX1_rank_77 : decode cX1_rank 77 = .ok (.ireturn, 1) := by decide +kernel
theorem dX1_rank_78 : decode cX1_rank 78 = .ok (.iconst 5, 1) := by decide +kernel
theorem dX1_rank_79 : decode cX1_rank 79 = .ok (.ireturn, 1) := by decide +kernel
theorem dX1_rank_80 : decode cX1_rank 80 = .ok (.bipush 6, 2) := by decide +kernel
theorem dX1_rank_82 : decode cX1_rank 82 = .ok (.ireturn, 1) := by decide +kernel
theorem dX1_rank_83 : decode cX1_rank 83 = .ok (.bipush 7, 2) := by decide +kernel
theorem dX1_rank_85 : decode cX1_rank 85 = .ok (.ireturn, 1) := by decide +kernel
theorem dX1_rank_86 : decode cX1_rank 86 = .ok (.iconst (-1), 1) := by decide +kernel
theorem dX1_rank_87 : decode cX1_rank 87 = .ok (.ireturn, 1) := by decide +kernel
abbrev cX2_init : ByteArray := prog_4_method_1_code
abbrev mX2_init : MethodName := { cls := "KinInTheHeap$Sheet", name := "<init>", desc := "()V" }
theorem dX2_init_0 : decode cX2_init 0 = .ok (.aload_n 0, 1) := by decide +kernel
theorem dX2_init_1 : decode cX2_init 1 = .ok (.invokespecial 3, 3) := by decide +kernel
theorem dX2_init_4 : decode cX2_init 4 = .ok (.aload_n 0, 1) := by decide +kernel
theorem dX2_init_5 : decode cX2_init 5 = .ok (.bipush 40, 2) := by decide +kernel
theorem dX2_init_7 : decode cX2_init 7 = .ok (.newarray .int, 2) := by decide +kernel
theorem dX2_init_9 : decode cX2_init 9 = .ok (.putfield 9, 3) := by decide +kernel
theorem dX2_init_12 : decode cX2_init 12 = .ok (.aload_n 0, 1) := by decide +kernel
theorem dX2_init_13 : decode cX2_init 13 = .ok (.iconst (-1), 1) := by decide +kernel
theorem dX2_init_14 : decode cX2_init 14 = .ok (.putfield 15, 3) := by decide +kernel
theorem dX2_init_17 : decode cX2_init 17 = .ok (.return_, 1) := by decide +kernel
abbrev cX2_isMissing : ByteArray := prog_4_method_2_code
abbrev mX2_isMissing : MethodName := { cls := "KinInTheHeap$Sheet", name := "isMissing", desc := "()Z" }
theorem mwX2_isMissing : MWV mX2_isMissing (.code mX2_isMissing cX2_isMissing 1 (some .boolean)) "KinInTheHeap$Sheet" 0 := ⟨w686, w684, w685, w101, w101, by decide +kernel⟩
theorem dX2_isMissing_0 : decode cX2_isMissing 0 = .ok (.aload_n 0, 1) := by decide +kernel
theorem dX2_isMissing_1 : decode cX2_isMissing 1 = .ok (.getfield 15, 3) := by decide +kernel
theorem dX2_isMissing_4 : decode cX2_isMissing 4 = .ok (.iconst (-1), 1) := by decide +kernel
theorem dX2_isMissing_5 : decode cX2_isMissing 5 = .ok (.if_icmp .ne 7, 3) := by decide +kernel
theorem dX2_isMissing_8 : decode cX2_isMissing 8 = .ok (.iconst 1, 1) := by decide +kernel
theorem dX2_isMissing_9 : decode cX2_isMissing 9 = .ok (.goto 4, 3) := by decide +kernel
theorem dX2_isMissing_12 : decode cX2_isMissing 12 = .ok (.iconst 0, 1) := by decide +kernel
theorem dX2_isMissing_13 : decode cX2_isMissing 13 = .ok (.ireturn, 1) := by decide +kernel
abbrev cX2_make : ByteArray := prog_4_method_3_code
abbrev mX2_make : MethodName := { cls := "KinInTheHeap$Sheet", name := "make", desc := "(II)V" }
theorem mwX2_make : MWV mX2_make (.code mX2_make cX2_make 4 none) "KinInTheHeap$Sheet" 2 := ⟨w871, w869, w870, w101, w101, by decide +kernel⟩
theorem dX2_make_0 : decode cX2_make 0 = .ok (.iconst 0, 1) := by decide +kernel
theorem dX2_make_1 : decode cX2_make 1 = .ok (.istore_n 3, 1) := by decide +kernel
theorem dX2_make_2 : decode cX2_make 2 = .ok (.iload_n 3, 1) := by decide +kernel
theorem dX2_make_3 : decode cX2_make 3 = .ok (.bipush 40, 2) := by decide +kernel
theorem dX2_make_5 : decode cX2_make 5 = .ok (.if_icmp .ge 16, 3) := by decide +kernel
theorem dX2_make_8 : decode cX2_make 8 = .ok (.aload_n 0, 1) := by decide +kernel
theorem dX2_make_9 : decode cX2_make 9 = .ok (.getfield 9, 3) := by decide +kernel
theorem dX2_make_12 : decode cX2_make 12 = .ok (.iload_n 3, 1) := by decide +kernel
theorem dX2_make_13 : decode cX2_make 13 = .ok (.iconst 0, 1) := by decide +kernel
theorem dX2_make_14 : decode cX2_make 14 = .ok (.iastore, 1) := by decide +kernel
theorem dX2_make_15 : decode cX2_make 15 = .ok (.iinc 3 1, 3) := by decide +kernel
theorem dX2_make_18 : decode cX2_make 18 = .ok (.goto (-16), 3) := by decide +kernel
theorem dX2_make_21 : decode cX2_make 21 = .ok (.aload_n 0, 1) := by decide +kernel
theorem dX2_make_22 : decode cX2_make 22 = .ok (.iload_n 1, 1) := by decide +kernel
theorem dX2_make_23 : decode cX2_make 23 = .ok (.putfield 15, 3) := by decide +kernel
theorem dX2_make_26 : decode cX2_make 26 = .ok (.aload_n 0, 1) := by decide +kernel
theorem dX2_make_27 : decode cX2_make 27 = .ok (.iconst 0, 1) := by decide +kernel
theorem dX2_make_28 : decode cX2_make 28 = .ok (.bipush 40, 2) := by decide +kernel
theorem dX2_make_30 : decode cX2_make 30 = .ok (.iload_n 2, 1) := by decide +kernel
theorem dX2_make_31 : decode cX2_make 31 = .ok (.invokestatic 19, 3) := by decide +kernel
theorem dX2_make_34 : decode cX2_make 34 = .ok (.invokestatic 25, 3) := by decide +kernel
theorem dX2_make_37 : decode cX2_make 37 = .ok (.putfield 28, 3) := by decide +kernel
theorem dX2_make_40 : decode cX2_make 40 = .ok (.return_, 1) := by decide +kernel
abbrev cX2_holds : ByteArray := prog_4_method_4_code
abbrev mX2_holds : MethodName := { cls := "KinInTheHeap$Sheet", name := "holds", desc := "(II)Z" }
theorem mwX2_holds : MWV mX2_holds (.code mX2_holds cX2_holds 3 (some .boolean)) "KinInTheHeap$Sheet" 2 := ⟨w919, w917, w918, w101, w101, by decide +kernel⟩
theorem dX2_holds_0 : decode cX2_holds 0 = .ok (.iload_n 1, 1) := by decide +kernel
theorem dX2_holds_1 : decode cX2_holds 1 = .ok (.ifCond .lt 29, 3) := by decide +kernel
theorem dX2_holds_4 : decode cX2_holds 4 = .ok (.iload_n 2, 1) := by decide +kernel
theorem dX2_holds_5 : decode cX2_holds 5 = .ok (.ifCond .lt 25, 3) := by decide +kernel
theorem dX2_holds_8 : decode cX2_holds 8 = .ok (.iload_n 2, 1) := by decide +kernel
theorem dX2_holds_9 : decode cX2_holds 9 = .ok (.aload_n 0, 1) := by decide +kernel
theorem dX2_holds_10 : decode cX2_holds 10 = .ok (.getfield 28, 3) := by decide +kernel
theorem dX2_holds_13 : decode cX2_holds 13 = .ok (.if_icmp .gt 17, 3) := by decide +kernel
theorem dX2_holds_16 : decode cX2_holds 16 = .ok (.iload_n 1, 1) := by decide +kernel
theorem dX2_holds_17 : decode cX2_holds 17 = .ok (.aload_n 0, 1) := by decide +kernel
theorem dX2_holds_18 : decode cX2_holds 18 = .ok (.getfield 28, 3) := by decide +kernel
theorem dX2_holds_21 : decode cX2_holds 21 = .ok (.iload_n 2, 1) := by decide +kernel
theorem dX2_holds_22 : decode cX2_holds 22 = .ok (.isub, 1) := by decide +kernel
theorem dX2_holds_23 : decode cX2_holds 23 = .ok (.if_icmp .gt 7, 3) := by decide +kernel
theorem dX2_holds_26 : decode cX2_holds 26 = .ok (.iconst 1, 1) := by decide +kernel
theorem dX2_holds_27 : decode cX2_holds 27 = .ok (.goto 4, 3) := by decide +kernel
theorem dX2_holds_30 : decode cX2_holds 30 = .ok (.iconst 0, 1) := by decide +kernel
theorem dX2_holds_31 : decode cX2_holds 31 = .ok (.ireturn, 1) := by decide +kernel
abbrev cX2_put : ByteArray := prog_4_method_5_code
abbrev mX2_put : MethodName := { cls := "KinInTheHeap$Sheet", name := "put", desc := "(II)Z" }
theorem mwX2_put : MWV mX2_put (.code mX2_put cX2_put 3 (some .boolean)) "KinInTheHeap$Sheet" 2 := ⟨w877, w875, w876, w101, w101, by decide +kernel⟩
theorem dX2_put_0 : decode cX2_put 0 = .ok (.iload_n 1, 1) := by decide +kernel
theorem dX2_put_1 : decode cX2_put 1 = .ok (.ifCond .lt 11, 3) := by decide +kernel
theorem dX2_put_4 : decode cX2_put 4 = .ok (.iload_n 1, 1) := by decide +kernel
theorem dX2_put_5 : decode cX2_put 5 = .ok (.aload_n 0, 1) := by decide +kernel
theorem dX2_put_6 : decode cX2_put 6 = .ok (.getfield 28, 3) := by decide +kernel
theorem dX2_put_9 : decode cX2_put 9 = .ok (.if_icmp .lt 5, 3) := by decide +kernel
theorem dX2_put_12 : decode cX2_put 12 = .ok (.iconst 0, 1) := by decide +kernel
theorem dX2_put_13 : decode cX2_put 13 = .ok (.ireturn, 1) := by decide +kernel
theorem dX2_put_14 : decode cX2_put 14 = .ok (.aload_n 0, 1) := by decide +kernel
theorem dX2_put_15 : decode cX2_put 15 = .ok (.getfield 9, 3) := by decide +kernel
theorem dX2_put_18 : decode cX2_put 18 = .ok (.iload_n 1, 1) := by decide +kernel
theorem dX2_put_19 : decode cX2_put 19 = .ok (.aload_n 0, 1) := by decide +kernel
theorem dX2_put_20 : decode cX2_put 20 = .ok (.getfield 15, 3) := by decide +kernel
theorem dX2_put_23 : decode cX2_put 23 = .ok (.ifCond .ne 8, 3) := by decide +kernel
theorem dX2_put_26 : decode cX2_put 26 = .ok (.iload_n 2, 1) := by decide +kernel
theorem dX2_put_27 : decode cX2_put 27 = .ok (.i2b, 1) := by decide +kernel
theorem dX2_put_28 : decode cX2_put 28 = .ok (.goto 17, 3) := by decide +kernel
theorem dX2_put_31 : decode cX2_put 31 = .ok (.aload_n 0, 1) := by decide +kernel
theorem dX2_put_32 : decode cX2_put 32 = .ok (.getfield 15, 3) := by decide +kernel
theorem dX2_put_35 : decode cX2_put 35 = .ok (.iconst 1, 1) := by decide +kernel
theorem dX2_put_36 : decode cX2_put 36 = .ok (.if_icmp .ne 8, 3) := by decide +kernel
theorem dX2_put_39 : decode cX2_put 39 = .ok (.iload_n 2, 1) := by decide +kernel
theorem dX2_put_40 : decode cX2_put 40 = .ok (.i2s, 1) := by decide +kernel
theorem dX2_put_41 : decode cX2_put 41 = .ok (.goto 4, 3) := by decide +kernel
theorem dX2_put_44 : decode cX2_put 44 = .ok (.iload_n 2, 1) := by decide +kernel
theorem dX2_put_45 : decode cX2_put 45 = .ok (.iastore, 1) := by decide +kernel
theorem dX2_put_46 : decode cX2_put 46 = .ok (.iconst 1, 1) := by decide +kernel
theorem dX2_put_47 : decode cX2_put 47 = .ok (.ireturn, 1) := by decide +kernel
abbrev cX3_init : ByteArray := prog_5_method_1_code
abbrev mX3_init : MethodName := { cls := "KinInTheHeap$Text", name := "<init>", desc := "()V" }
theorem dX3_init_0 : decode cX3_init 0 = .ok (.aload_n 0, 1) := by decide +kernel
theorem dX3_init_1 : decode cX3_init 1 = .ok (.invokespecial 3, 3) := by decide +kernel
theorem dX3_init_4 : decode cX3_init 4 = .ok (.aload_n 0, 1) := by decide +kernel
theorem dX3_init_5 : decode cX3_init 5 = .ok (.sipush 160, 3) := by decide +kernel
theorem dX3_init_8 : decode cX3_init 8 = .ok (.newarray .int, 2) := by decide +kernel
theorem dX3_init_10 : decode cX3_init 10 = .ok (.putfield 9, 3) := by decide +kernel
theorem dX3_init_13 : decode cX3_init 13 = .ok (.aload_n 0, 1) := by decide +kernel
theorem dX3_init_14 : decode cX3_init 14 = .ok (.iconst 3, 1) := by decide +kernel
theorem dX3_init_15 : decode cX3_init 15 = .ok (.newarray .int, 2) := by decide +kernel
theorem dX3_init_17 : decode cX3_init 17 = .ok (.putfield 15, 3) := by decide +kernel
theorem dX3_init_20 : decode cX3_init 20 = .ok (.aload_n 0, 1) := by decide +kernel
theorem dX3_init_21 : decode cX3_init 21 = .ok (.sipush 161, 3) := by decide +kernel
theorem dX3_init_24 : decode cX3_init 24 = .ok (.newarray .int, 2) := by decide +kernel
theorem dX3_init_26 : decode cX3_init 26 = .ok (.putfield 18, 3) := by decide +kernel
theorem dX3_init_29 : decode cX3_init 29 = .ok (.return_, 1) := by decide +kernel
abbrev cX3_clear : ByteArray := prog_5_method_2_code
abbrev mX3_clear : MethodName := { cls := "KinInTheHeap$Text", name := "clear", desc := "()V" }
theorem mwX3_clear : MWV mX3_clear (.code mX3_clear cX3_clear 1 none) "KinInTheHeap$Text" 0 := ⟨w207, w205, w206, w100, w100, by decide +kernel⟩
theorem dX3_clear_0 : decode cX3_clear 0 = .ok (.aload_n 0, 1) := by decide +kernel
theorem dX3_clear_1 : decode cX3_clear 1 = .ok (.iconst 0, 1) := by decide +kernel
theorem dX3_clear_2 : decode cX3_clear 2 = .ok (.putfield 21, 3) := by decide +kernel
theorem dX3_clear_5 : decode cX3_clear 5 = .ok (.aload_n 0, 1) := by decide +kernel
theorem dX3_clear_6 : decode cX3_clear 6 = .ok (.iconst 0, 1) := by decide +kernel
theorem dX3_clear_7 : decode cX3_clear 7 = .ok (.putfield 25, 3) := by decide +kernel
theorem dX3_clear_10 : decode cX3_clear 10 = .ok (.return_, 1) := by decide +kernel
abbrev cX3_becomeFirst : ByteArray := prog_5_method_3_code
abbrev mX3_becomeFirst : MethodName := { cls := "KinInTheHeap$Text", name := "becomeFirst", desc := "()V" }
theorem mwX3_becomeFirst : MWV mX3_becomeFirst (.code mX3_becomeFirst cX3_becomeFirst 1 none) "KinInTheHeap$Text" 0 := ⟨w203, w201, w202, w100, w100, by decide +kernel⟩
theorem dX3_becomeFirst_0 : decode cX3_becomeFirst 0 = .ok (.aload_n 0, 1) := by decide +kernel
theorem dX3_becomeFirst_1 : decode cX3_becomeFirst 1 = .ok (.invokevirtual 28, 3) := by decide +kernel
theorem dX3_becomeFirst_4 : decode cX3_becomeFirst 4 = .ok (.aload_n 0, 1) := by decide +kernel
theorem dX3_becomeFirst_5 : decode cX3_becomeFirst 5 = .ok (.sipush 10000, 3) := by decide +kernel
theorem dX3_becomeFirst_8 : decode cX3_becomeFirst 8 = .ok (.invokevirtual 31, 3) := by decide +kernel
theorem dX3_becomeFirst_11 : decode cX3_becomeFirst 11 = .ok (.aload_n 0, 1) := by decide +kernel
theorem dX3_becomeFirst_12 : decode cX3_becomeFirst 12 = .ok (.invokevirtual 35, 3) := by decide +kernel
theorem dX3_becomeFirst_15 : decode cX3_becomeFirst 15 = .ok (.aload_n 0, 1) := by decide +kernel
theorem dX3_becomeFirst_16 : decode cX3_becomeFirst 16 = .ok (.iconst 0, 1) := by decide +kernel
theorem dX3_becomeFirst_17 : decode cX3_becomeFirst 17 = .ok (.invokevirtual 31, 3) := by decide +kernel
theorem dX3_becomeFirst_20 : decode cX3_becomeFirst 20 = .ok (.aload_n 0, 1) := by decide +kernel
theorem dX3_becomeFirst_21 : decode cX3_becomeFirst 21 = .ok (.invokevirtual 35, 3) := by decide +kernel
theorem dX3_becomeFirst_24 : decode cX3_becomeFirst 24 = .ok (.aload_n 0, 1) := by decide +kernel
theorem dX3_becomeFirst_25 : decode cX3_becomeFirst 25 = .ok (.iconst 0, 1) := by decide +kernel
theorem dX3_becomeFirst_26 : decode cX3_becomeFirst 26 = .ok (.invokevirtual 31, 3) := by decide +kernel
theorem dX3_becomeFirst_29 : decode cX3_becomeFirst 29 = .ok (.aload_n 0, 1) := by decide +kernel
theorem dX3_becomeFirst_30 : decode cX3_becomeFirst 30 = .ok (.invokevirtual 35, 3) := by decide +kernel
theorem dX3_becomeFirst_33 : decode cX3_becomeFirst 33 = .ok (.return_, 1) := by decide +kernel
abbrev cX3_add : ByteArray := prog_5_method_4_code
abbrev mX3_add : MethodName := { cls := "KinInTheHeap$Text", name := "add", desc := "(I)V" }
theorem mwX3_add : MWV mX3_add (.code mX3_add cX3_add 2 none) "KinInTheHeap$Text" 1 := ⟨w211, w209, w210, w100, w100, by decide +kernel⟩
theorem dX3_add_0 : decode cX3_add 0 = .ok (.aload_n 0, 1) := by decide +kernel
theorem dX3_add_1 : decode cX3_add 1 = .ok (.getfield 21, 3) := by decide +kernel
theorem dX3_add_4 : decode cX3_add 4 = .ok (.sipush 160, 3) := by decide +kernel
theorem dX3_add_7 : decode cX3_add 7 = .ok (.if_icmp .ge 23, 3) := by decide +kernel
theorem dX3_add_10 : decode cX3_add 10 = .ok (.aload_n 0, 1) := by decide +kernel
theorem dX3_add_11 : decode cX3_add 11 = .ok (.getfield 9, 3) := by decide +kernel
theorem dX3_add_14 : decode cX3_add 14 = .ok (.aload_n 0, 1) := by decide +kernel
theorem dX3_add_15 : decode cX3_add 15 = .ok (.getfield 21, 3) := by decide +kernel
theorem dX3_add_18 : decode cX3_add 18 = .ok (.iload_n 1, 1) := by decide +kernel
theorem dX3_add_19 : decode cX3_add 19 = .ok (.iastore, 1) := by decide +kernel
theorem dX3_add_20 : decode cX3_add 20 = .ok (.aload_n 0, 1) := by decide +kernel
theorem dX3_add_21 : decode cX3_add 21 = .ok (.dup, 1) := by decide +kernel
theorem dX3_add_22 : decode cX3_add 22 = .ok (.getfield 21, 3) := by decide +kernel
theorem dX3_add_25 : decode cX3_add 25 = .ok (.iconst 1, 1) := by decide +kernel
theorem dX3_add_26 : decode cX3_add 26 = .ok (.iadd, 1) := by decide +kernel
theorem dX3_add_27 : decode cX3_add 27 = .ok (.putfield 21, 3) := by decide +kernel
theorem dX3_add_30 : decode cX3_add 30 = .ok (.return_, 1) := by decide +kernel
abbrev cX3_endPart : ByteArray := prog_5_method_5_code
abbrev mX3_endPart : MethodName := { cls := "KinInTheHeap$Text", name := "endPart", desc := "()V" }
theorem mwX3_endPart : MWV mX3_endPart (.code mX3_endPart cX3_endPart 1 none) "KinInTheHeap$Text" 0 := ⟨w215, w213, w214, w100, w100, by decide +kernel⟩
theorem dX3_endPart_0 : decode cX3_endPart 0 = .ok (.aload_n 0, 1) := by decide +kernel
theorem dX3_endPart_1 : decode cX3_endPart 1 = .ok (.getfield 25, 3) := by decide +kernel
theorem dX3_endPart_4 : decode cX3_endPart 4 = .ok (.iconst 3, 1) := by decide +kernel
theorem dX3_endPart_5 : decode cX3_endPart 5 = .ok (.if_icmp .ge 26, 3) := by decide +kernel
theorem dX3_endPart_8 : decode cX3_endPart 8 = .ok (.aload_n 0, 1) := by decide +kernel
theorem dX3_endPart_9 : decode cX3_endPart 9 = .ok (.getfield 15, 3) := by decide +kernel
theorem dX3_endPart_12 : decode cX3_endPart 12 = .ok (.aload_n 0, 1) := by decide +kernel
theorem dX3_endPart_13 : decode cX3_endPart 13 = .ok (.getfield 25, 3) := by decide +kernel
theorem dX3_endPart_16 : decode cX3_endPart 16 = .ok (.aload_n 0, 1) := by decide +kernel
theorem dX3_endPart_17 : decode cX3_endPart 17 = .ok (.getfield 21, 3) := by decide +kernel
theorem dX3_endPart_20 : decode cX3_endPart 20 = .ok (.iastore, 1) := by decide +kernel
theorem dX3_endPart_21 : decode cX3_endPart 21 = .ok (.aload_n 0, 1) := by decide +kernel
theorem dX3_endPart_22 : decode cX3_endPart 22 = .ok (.dup, 1) := by decide +kernel
theorem dX3_endPart_23 : decode cX3_endPart 23 = .ok (.getfield 25, 3) := by decide +kernel
theorem dX3_endPart_26 : decode cX3_endPart 26 = .ok (.iconst 1, 1) := by decide +kernel
theorem dX3_endPart_27 : decode cX3_endPart 27 = .ok (.iadd, 1) := by decide +kernel
theorem dX3_endPart_28 : decode cX3_endPart 28 = .ok (.putfield 25, 3) := by decide +kernel
theorem dX3_endPart_31 : decode cX3_endPart 31 = .ok (.return_, 1) := by decide +kernel
abbrev cX3_value : ByteArray := prog_5_method_6_code
abbrev mX3_value : MethodName := { cls := "KinInTheHeap$Text", name := "value", desc := "(I[I)I" }
theorem mwX3_value : MWV mX3_value (.code mX3_value cX3_value 8 (some .int)) "KinInTheHeap$Text" 2 := ⟨w383, w381, w382, w100, w100, by decide +kernel⟩
theorem dX3_value_0 : decode cX3_value 0 = .ok (.iconst 0, 1) := by decide +kernel
theorem dX3_value_1 : decode cX3_value 1 = .ok (.istore_n 3, 1) := by decide +kernel
theorem dX3_value_2 : decode cX3_value 2 = .ok (.iload_n 1, 1) := by decide +kernel
theorem dX3_value_3 : decode cX3_value 3 = .ok (.ifCond .ne 7, 3) := by decide +kernel
theorem dX3_value_6 : decode cX3_value 6 = .ok (.iconst 0, 1) := by decide +kernel
theorem dX3_value_7 : decode cX3_value 7 = .ok (.goto 11, 3) := by decide +kernel
theorem dX3_value_10 : decode cX3_value 10 = .ok (.aload_n 0, 1) := by decide +kernel
theorem dX3_value_11 : decode cX3_value 11 = .ok (.getfield 15, 3) := by decide +kernel
theorem dX3_value_14 : decode cX3_value 14 = .ok (.iload_n 1, 1) := by decide +kernel
theorem dX3_value_15 : decode cX3_value 15 = .ok (.iconst 1, 1) := by decide +kernel
theorem dX3_value_16 : decode cX3_value 16 = .ok (.isub, 1) := by decide +kernel
theorem dX3_value_17 : decode cX3_value 17 = .ok (.iaload, 1) := by decide +kernel
theorem dX3_value_18 : decode cX3_value 18 = .ok (.istore 4, 2) := by decide +kernel
theorem dX3_value_20 : decode cX3_value 20 = .ok (.iload 4, 2) := by decide +kernel
theorem dX3_value_22 : decode cX3_value 22 = .ok (.aload_n 0, 1) := by decide +kernel
theorem dX3_value_23 : decode cX3_value 23 = .ok (.getfield 15, 3) := by decide +kernel
theorem dX3_value_26 : decode cX3_value 26 = .ok (.iload_n 1, 1) := by decide +kernel
theorem dX3_value_27 : decode cX3_value 27 = .ok (.iaload, 1) := by decide +kernel
theorem dX3_value_28 : decode cX3_value 28 = .ok (.if_icmp .ge 316, 3) := by decide +kernel
theorem dX3_value_31 : decode cX3_value 31 = .ok (.aload_n 0, 1) := by decide +kernel
theorem dX3_value_32 : decode cX3_value 32 = .ok (.getfield 9, 3) := by decide +kernel
theorem dX3_value_35 : decode cX3_value 35 = .ok (.iload 4, 2) := by decide +kernel
theorem dX3_value_37 : decode cX3_value 37 = .ok (.iaload, 1) := by decide +kernel
theorem dX3_value_38 : decode cX3_value 38 = .ok (.istore 5, 2) := by decide +kernel
theorem dX3_value_40 : decode cX3_value 40 = .ok (.iload 5, 2) := by decide +kernel
theorem dX3_value_42 : decode cX3_value 42 = .ok (.ifCond .lt 56, 3) := by decide +kernel
theorem dX3_value_45 : decode cX3_value 45 = .ok (.iload_n 3, 1) := by decide +kernel
theorem dX3_value_46 : decode cX3_value 46 = .ok (.sipush 160, 3) := by decide +kernel
theorem dX3_value_49 : decode cX3_value 49 = .ok (.if_icmp .ge 14, 3) := by decide +kernel
theorem dX3_value_52 : decode cX3_value 52 = .ok (.iload 5, 2) := by decide +kernel
theorem dX3_value_54 : decode cX3_value 54 = .ok (.sipush 10000, 3) := by decide +kernel
theorem dX3_value_57 : decode cX3_value 57 = .ok (.isub, 1) := by decide +kernel
theorem dX3_value_58 : decode cX3_value 58 = .ok (.bipush 6, 2) := by decide +kernel
theorem dX3_value_60 : decode cX3_value 60 = .ok (.if_icmp .lt 5, 3) := by decide +kernel
theorem dX3_value_63 : decode cX3_value 63 = .ok (.iconst 0, 1) := by decide +kernel
theorem dX3_value_64 : decode cX3_value 64 = .ok (.ireturn, 1) := by decide +kernel
theorem dX3_value_65 : decode cX3_value 65 = .ok (.aload_n 0, 1) := by decide +kernel
theorem dX3_value_66 : decode cX3_value 66 = .ok (.getfield 18, 3) := by decide +kernel
theorem dX3_value_69 : decode cX3_value 69 = .ok (.iload_n 3, 1) := by decide +kernel
theorem dX3_value_70 : decode cX3_value 70 = .ok (.iload 5, 2) := by decide +kernel
theorem dX3_value_72 : decode cX3_value 72 = .ok (.sipush 10000, 3) := by decide +kernel
theorem dX3_value_75 : decode cX3_value 75 = .ok (.if_icmp .ge 8, 3) := by decide +kernel
theorem dX3_value_78 : decode cX3_value 78 = .ok (.iload 5, 2) := by decide +kernel
theorem dX3_value_80 : decode cX3_value 80 = .ok (.goto 11, 3) := by decide +kernel
theorem dX3_value_83 : decode cX3_value 83 = .ok (.aload_n 2, 1) := by decide +kernel
theorem dX3_value_84 : decode cX3_value 84 = .ok (.iload 5, 2) := by decide +kernel
theorem dX3_value_86 : decode cX3_value 86 = .ok (.sipush 10000, 3) := by decide +kernel
theorem dX3_value_89 : decode cX3_value 89 = .ok (.isub, 1) := by decide +kernel
theorem dX3_value_90 : decode cX3_value 90 = .ok (.iaload, 1) := by decide +kernel
theorem dX3_value_91 : decode cX3_value 91 = .ok (.iastore, 1) := by decide +kernel
theorem dX3_value_92 : decode cX3_value 92 = .ok (.iinc 3 1, 3) := by decide +kernel
theorem dX3_value_95 : decode cX3_value 95 = .ok (.goto 243, 3) := by decide +kernel
theorem dX3_value_98 : decode cX3_value 98 = .ok (.iload 5, 2) := by decide +kernel
theorem dX3_value_100 : decode cX3_value 100 = .ok (.bipush (-8), 2) := by decide +kernel
theorem dX3_value_102 : decode cX3_value 102 = .ok (.if_icmp .eq 13, 3) := by decide +kernel
theorem dX3_value_105 : decode cX3_value 105 = .ok (.iload 5, 2) := by decide +kernel
theorem dX3_value_107 : decode cX3_value 107 = .ok (.bipush (-18), 2) := by decide +kernel
theorem dX3_value_109 : decode cX3_value 109 = .ok (.if_icmp .eq 6, 3) := by decide +kernel
theorem dX3_value_112 : decode cX3_value 112 = .ok (.iinc 3 (-1), 3) := by decide +kernel
theorem dX3_value_115 : decode cX3_value 115 = .ok (.iload_n 3, 1) := by decide +kernel
theorem dX3_value_116 : decode cX3_value 116 = .ok (.iconst 1, 1) := by decide +kernel
theorem dX3_value_117 : decode cX3_value 117 = .ok (.if_icmp .ge 5, 3) := by decide +kernel
theorem dX3_value_120 : decode cX3_value 120 = .ok (.iconst 0, 1) := by decide +kernel
theorem dX3_value_121 : decode cX3_value 121 = .ok (.ireturn, 1) := by decide +kernel
theorem dX3_value_122 : decode cX3_value 122 = .ok (.aload_n 0, 1) := by decide +kernel
theorem dX3_value_123 : decode cX3_value 123 = .ok (.getfield 18, 3) := by decide +kernel
theorem dX3_value_126 : decode cX3_value 126 = .ok (.iload_n 3, 1) := by decide +kernel
theorem dX3_value_127 : decode cX3_value 127 = .ok (.iconst 1, 1) := by decide +kernel
theorem dX3_value_128 : decode cX3_value 128 = .ok (.isub, 1) := by decide +kernel
theorem dX3_value_129 : decode cX3_value 129 = .ok (.iaload, 1) := by decide +kernel
theorem dX3_value_130 : decode cX3_value 130 = .ok (.istore 6, 2) := by decide +kernel
theorem dX3_value_132 : decode cX3_value 132 = .ok (.aload_n 0, 1) := by decide +kernel
theorem dX3_value_133 : decode cX3_value 133 = .ok (.getfield 18, 3) := by decide +kernel
theorem dX3_value_136 : decode cX3_value 136 = .ok (.iload_n 3, 1) := by decide +kernel
theorem dX3_value_137 : decode cX3_value 137 = .ok (.iaload, 1) := by decide +kernel
theorem dX3_value_138 : decode cX3_value 138 = .ok (.istore 7, 2) := by decide +kernel
theorem dX3_value_140 : decode cX3_value 140 = .ok (.iload 5, 2) := by decide +kernel
theorem dX3_value_142 : decode cX3_value 142 = .ok (.tableswitch 181 (-17) (-6) #[134, 117, 171, 161, 151, 181, 181, 181, 181, 102, 82, 62], 62) := by decide +kernel
theorem dX3_value_204 : decode cX3_value 204 = .ok (.iload 6, 2) := by decide +kernel
theorem dX3_value_206 : decode cX3_value 206 = .ok (.ifCond .ne 8, 3) := by decide +kernel
theorem dX3_value_209 : decode cX3_value 209 = .ok (.iload 7, 2) := by decide +kernel
theorem dX3_value_211 : decode cX3_value 211 = .ok (.ifCond .eq 7, 3) := by decide +kernel
theorem dX3_value_214 : decode cX3_value 214 = .ok (.iconst 1, 1) := by decide +kernel
theorem dX3_value_215 : decode cX3_value 215 = .ok (.goto 4, 3) := by decide +kernel
theorem dX3_value_218 : decode cX3_value 218 = .ok (.iconst 0, 1) := by decide +kernel
theorem dX3_value_219 : decode cX3_value 219 = .ok (.istore 6, 2) := by decide +kernel
theorem dX3_value_221 : decode cX3_value 221 = .ok (.goto 107, 3) := by decide +kernel
theorem dX3_value_224 : decode cX3_value 224 = .ok (.iload 6, 2) := by decide +kernel
theorem dX3_value_226 : decode cX3_value 226 = .ok (.ifCond .eq 12, 3) := by decide +kernel
theorem dX3_value_229 : decode cX3_value 229 = .ok (.iload 7, 2) := by decide +kernel
theorem dX3_value_231 : decode cX3_value 231 = .ok (.ifCond .eq 7, 3) := by decide +kernel
theorem dX3_value_234 : decode cX3_value 234 = .ok (.iconst 1, 1) := by decide +kernel
theorem dX3_value_235 : decode cX3_value 235 = .ok (.goto 4, 3) := by decide +kernel
theorem dX3_value_238 : decode cX3_value 238 = .ok (.iconst 0, 1) := by decide +kernel
theorem dX3_value_239 : decode cX3_value 239 = .ok (.istore 6, 2) := by decide +kernel
theorem dX3_value_241 : decode cX3_value 241 = .ok (.goto 87, 3) := by decide +kernel
theorem dX3_value_244 : decode cX3_value 244 = .ok (.iload 6, 2) := by decide +kernel
theorem dX3_value_246 : decode cX3_value 246 = .ok (.ifCond .ne 7, 3) := by decide +kernel
theorem dX3_value_249 : decode cX3_value 249 = .ok (.iconst 1, 1) := by decide +kernel
theorem dX3_value_250 : decode cX3_value 250 = .ok (.goto 4, 3) := by decide +kernel
theorem dX3_value_253 : decode cX3_value 253 = .ok (.iconst 0, 1) := by decide +kernel
theorem dX3_value_254 : decode cX3_value 254 = .ok (.istore 6, 2) := by decide +kernel
theorem dX3_value_256 : decode cX3_value 256 = .ok (.goto 72, 3) := by decide +kernel
theorem dX3_value_259 : decode cX3_value 259 = .ok (.iload 6, 2) := by decide +kernel
theorem dX3_value_261 : decode cX3_value 261 = .ok (.iload 7, 2) := by decide +kernel
theorem dX3_value_263 : decode cX3_value 263 = .ok (.if_icmp .ge 7, 3) := by decide +kernel
theorem dX3_value_266 : decode cX3_value 266 = .ok (.iconst 1, 1) := by decide +kernel
theorem dX3_value_267 : decode cX3_value 267 = .ok (.goto 4, 3) := by decide +kernel
theorem dX3_value_270 : decode cX3_value 270 = .ok (.iconst 0, 1) := by decide +kernel
theorem dX3_value_271 : decode cX3_value 271 = .ok (.istore 6, 2) := by decide +kernel
theorem dX3_value_273 : decode cX3_value 273 = .ok (.goto 55, 3) := by decide +kernel
theorem dX3_value_276 : decode cX3_value 276 = .ok (.iload 6, 2) := by decide +kernel
theorem dX3_value_278 : decode cX3_value 278 = .ok (.iload 7, 2) := by decide +kernel
theorem dX3_value_280 : decode cX3_value 280 = .ok (.if_icmp .ne 7, 3) := by decide +kernel
theorem dX3_value_283 : decode cX3_value 283 = .ok (.iconst 1, 1) := by decide +kernel
theorem dX3_value_284 : decode cX3_value 284 = .ok (.goto 4, 3) := by decide +kernel
theorem dX3_value_287 : decode cX3_value 287 = .ok (.iconst 0, 1) := by decide +kernel
theorem dX3_value_288 : decode cX3_value 288 = .ok (.istore 6, 2) := by decide +kernel
theorem dX3_value_290 : decode cX3_value 290 = .ok (.goto 38, 3) := by decide +kernel
theorem dX3_value_293 : decode cX3_value 293 = .ok (.iload 6, 2) := by decide +kernel
theorem dX3_value_295 : decode cX3_value 295 = .ok (.iload 7, 2) := by decide +kernel
theorem dX3_value_297 : decode cX3_value 297 = .ok (.iadd, 1) := by decide +kernel
theorem dX3_value_298 : decode cX3_value 298 = .ok (.istore 6, 2) := by decide +kernel
theorem dX3_value_300 : decode cX3_value 300 = .ok (.goto 28, 3) := by decide +kernel
theorem dX3_value_303 : decode cX3_value 303 = .ok (.iload 6, 2) := by decide +kernel
theorem dX3_value_305 : decode cX3_value 305 = .ok (.iload 7, 2) := by decide +kernel
theorem dX3_value_307 : decode cX3_value 307 = .ok (.isub, 1) := by decide +kernel
theorem dX3_value_308 : decode cX3_value 308 = .ok (.istore 6, 2) := by decide +kernel
theorem dX3_value_310 : decode cX3_value 310 = .ok (.goto 18, 3) := by decide +kernel
theorem dX3_value_313 : decode cX3_value 313 = .ok (.iload 6, 2) := by decide +kernel
theorem dX3_value_315 : decode cX3_value 315 = .ok (.iload 7, 2) := by decide +kernel
theorem dX3_value_317 : decode cX3_value 317 = .ok (.imul, 1) := by decide +kernel
theorem dX3_value_318 : decode cX3_value 318 = .ok (.istore 6, 2) := by decide +kernel
theorem dX3_value_320 : decode cX3_value 320 = .ok (.goto 8, 3) := by decide +kernel
theorem dX3_value_323 : decode cX3_value 323 = .ok (.iload 6, 2) := by decide +kernel
theorem dX3_value_325 : decode cX3_value 325 = .ok (.ineg, 1) := by decide +kernel
theorem dX3_value_326 : decode cX3_value 326 = .ok (.istore 6, 2) := by decide +kernel
theorem dX3_value_328 : decode cX3_value 328 = .ok (.aload_n 0, 1) := by decide +kernel
theorem dX3_value_329 : decode cX3_value 329 = .ok (.getfield 18, 3) := by decide +kernel
theorem dX3_value_332 : decode cX3_value 332 = .ok (.iload_n 3, 1) := by decide +kernel
theorem dX3_value_333 : decode cX3_value 333 = .ok (.iconst 1, 1) := by decide +kernel
theorem dX3_value_334 : decode cX3_value 334 = .ok (.isub, 1) := by decide +kernel
theorem dX3_value_335 : decode cX3_value 335 = .ok (.iload 6, 2) := by decide +kernel
theorem dX3_value_337 : decode cX3_value 337 = .ok (.iastore, 1) := by decide +kernel
theorem dX3_value_338 : decode cX3_value 338 = .ok (.iinc 4 1, 3) := by decide +kernel
theorem dX3_value_341 : decode cX3_value 341 = .ok (.goto (-321), 3) := by decide +kernel
theorem dX3_value_344 : decode cX3_value 344 = .ok (.aload_n 0, 1) := by decide +kernel
theorem dX3_value_345 : decode cX3_value 345 = .ok (.getfield 18, 3) := by decide +kernel
theorem dX3_value_348 : decode cX3_value 348 = .ok (.iconst 0, 1) := by decide +kernel
theorem dX3_value_349 : decode cX3_value 349 = .ok (.iaload, 1) := by decide +kernel
theorem dX3_value_350 : decode cX3_value 350 = .ok (.ireturn, 1) := by decide +kernel
abbrev cJ6_bitCount_0f7a4 : ByteArray := prog_9_method_49_code
abbrev mJ6_bitCount_0f7a4 : MethodName := { cls := "java/lang/Integer", name := "bitCount", desc := "(I)I" }
theorem mwJ6_bitCount_0f7a4 : MWS mJ6_bitCount_0f7a4 (.code mJ6_bitCount_0f7a4 cJ6_bitCount_0f7a4 1 (some .int)) 1 := ⟨w790, w789, w112, by decide +kernel⟩
theorem dJ6_bitCount_0f7a4_0 : decode cJ6_bitCount_0f7a4 0 = .ok (.iload_n 0, 1) := by decide +kernel
theorem dJ6_bitCount_0f7a4_1 : decode cJ6_bitCount_0f7a4 1 = .ok (.iload_n 0, 1) := by decide +kernel
theorem dJ6_bitCount_0f7a4_2 : decode cJ6_bitCount_0f7a4 2 = .ok (.iconst 1, 1) := by decide +kernel
theorem dJ6_bitCount_0f7a4_3 : decode cJ6_bitCount_0f7a4 3 = .ok (.iushr, 1) := by decide +kernel
theorem dJ6_bitCount_0f7a4_4 : decode cJ6_bitCount_0f7a4 4 = .ok (.ldc_w 265, 3) := by decide +kernel
theorem dJ6_bitCount_0f7a4_7 : decode cJ6_bitCount_0f7a4 7 = .ok (.iand, 1) := by decide +kernel
theorem dJ6_bitCount_0f7a4_8 : decode cJ6_bitCount_0f7a4 8 = .ok (.isub, 1) := by decide +kernel
theorem dJ6_bitCount_0f7a4_9 : decode cJ6_bitCount_0f7a4 9 = .ok (.istore_n 0, 1) := by decide +kernel
theorem dJ6_bitCount_0f7a4_10 : decode cJ6_bitCount_0f7a4 10 = .ok (.iload_n 0, 1) := by decide +kernel
theorem dJ6_bitCount_0f7a4_11 : decode cJ6_bitCount_0f7a4 11 = .ok (.ldc_w 266, 3) := by decide +kernel
theorem dJ6_bitCount_0f7a4_14 : decode cJ6_bitCount_0f7a4 14 = .ok (.iand, 1) := by decide +kernel
theorem dJ6_bitCount_0f7a4_15 : decode cJ6_bitCount_0f7a4 15 = .ok (.iload_n 0, 1) := by decide +kernel
theorem dJ6_bitCount_0f7a4_16 : decode cJ6_bitCount_0f7a4 16 = .ok (.iconst 2, 1) := by decide +kernel
theorem dJ6_bitCount_0f7a4_17 : decode cJ6_bitCount_0f7a4 17 = .ok (.iushr, 1) := by decide +kernel
theorem dJ6_bitCount_0f7a4_18 : decode cJ6_bitCount_0f7a4 18 = .ok (.ldc_w 266, 3) := by decide +kernel
theorem dJ6_bitCount_0f7a4_21 : decode cJ6_bitCount_0f7a4 21 = .ok (.iand, 1) := by decide +kernel
theorem dJ6_bitCount_0f7a4_22 : decode cJ6_bitCount_0f7a4 22 = .ok (.iadd, 1) := by decide +kernel
theorem dJ6_bitCount_0f7a4_23 : decode cJ6_bitCount_0f7a4 23 = .ok (.istore_n 0, 1) := by decide +kernel
theorem dJ6_bitCount_0f7a4_24 : decode cJ6_bitCount_0f7a4 24 = .ok (.iload_n 0, 1) := by decide +kernel
theorem dJ6_bitCount_0f7a4_25 : decode cJ6_bitCount_0f7a4 25 = .ok (.iload_n 0, 1) := by decide +kernel
theorem dJ6_bitCount_0f7a4_26 : decode cJ6_bitCount_0f7a4 26 = .ok (.iconst 4, 1) := by decide +kernel
theorem dJ6_bitCount_0f7a4_27 : decode cJ6_bitCount_0f7a4 27 = .ok (.iushr, 1) := by decide +kernel
theorem dJ6_bitCount_0f7a4_28 : decode cJ6_bitCount_0f7a4 28 = .ok (.iadd, 1) := by decide +kernel
theorem dJ6_bitCount_0f7a4_29 : decode cJ6_bitCount_0f7a4 29 = .ok (.ldc_w 267, 3) := by decide +kernel
theorem dJ6_bitCount_0f7a4_32 : decode cJ6_bitCount_0f7a4 32 = .ok (.iand, 1) := by decide +kernel
theorem dJ6_bitCount_0f7a4_33 : decode cJ6_bitCount_0f7a4 33 = .ok (.istore_n 0, 1) := by decide +kernel
theorem dJ6_bitCount_0f7a4_34 : decode cJ6_bitCount_0f7a4 34 = .ok (.iload_n 0, 1) := by decide +kernel
theorem dJ6_bitCount_0f7a4_35 : decode cJ6_bitCount_0f7a4 35 = .ok (.iload_n 0, 1) := by decide +kernel
theorem dJ6_bitCount_0f7a4_36 : decode cJ6_bitCount_0f7a4 36 = .ok (.bipush 8, 2) := by decide +kernel
theorem dJ6_bitCount_0f7a4_38 : decode cJ6_bitCount_0f7a4 38 = .ok (.iushr, 1) := by decide +kernel
theorem dJ6_bitCount_0f7a4_39 : decode cJ6_bitCount_0f7a4 39 = .ok (.iadd, 1) := by decide +kernel
theorem dJ6_bitCount_0f7a4_40 : decode cJ6_bitCount_0f7a4 40 = .ok (.istore_n 0, 1) := by decide +kernel
theorem dJ6_bitCount_0f7a4_41 : decode cJ6_bitCount_0f7a4 41 = .ok (.iload_n 0, 1) := by decide +kernel
theorem dJ6_bitCount_0f7a4_42 : decode cJ6_bitCount_0f7a4 42 = .ok (.iload_n 0, 1) := by decide +kernel
theorem dJ6_bitCount_0f7a4_43 : decode cJ6_bitCount_0f7a4 43 = .ok (.bipush 16, 2) := by decide +kernel
theorem dJ6_bitCount_0f7a4_45 : decode cJ6_bitCount_0f7a4 45 = .ok (.iushr, 1) := by decide +kernel
theorem dJ6_bitCount_0f7a4_46 : decode cJ6_bitCount_0f7a4 46 = .ok (.iadd, 1) := by decide +kernel
theorem dJ6_bitCount_0f7a4_47 : decode cJ6_bitCount_0f7a4 47 = .ok (.istore_n 0, 1) := by decide +kernel
theorem dJ6_bitCount_0f7a4_48 : decode cJ6_bitCount_0f7a4 48 = .ok (.iload_n 0, 1) := by decide +kernel
theorem dJ6_bitCount_0f7a4_49 : decode cJ6_bitCount_0f7a4 49 = .ok (.bipush 63, 2) := by decide +kernel
theorem dJ6_bitCount_0f7a4_51 : decode cJ6_bitCount_0f7a4 51 = .ok (.iand, 1) := by decide +kernel
theorem dJ6_bitCount_0f7a4_52 : decode cJ6_bitCount_0f7a4 52 = .ok (.ireturn, 1) := by decide +kernel
abbrev cJ13_bitCount_95d88 : ByteArray := prog_10_method_50_code
abbrev mJ13_bitCount_95d88 : MethodName := { cls := "java/lang/Long", name := "bitCount", desc := "(J)I" }
theorem mwJ13_bitCount_95d88 : MWS mJ13_bitCount_95d88 (.code mJ13_bitCount_95d88 cJ13_bitCount_95d88 2 (some .int)) 1 := ⟨w714, w713, w111, by decide +kernel⟩
theorem dJ13_bitCount_95d88_0 : decode cJ13_bitCount_95d88 0 = .ok (.lload_n 0, 1) := by decide +kernel
theorem dJ13_bitCount_95d88_1 : decode cJ13_bitCount_95d88 1 = .ok (.lload_n 0, 1) := by decide +kernel
theorem dJ13_bitCount_95d88_2 : decode cJ13_bitCount_95d88 2 = .ok (.iconst 1, 1) := by decide +kernel
theorem dJ13_bitCount_95d88_3 : decode cJ13_bitCount_95d88 3 = .ok (.lushr, 1) := by decide +kernel
theorem dJ13_bitCount_95d88_4 : decode cJ13_bitCount_95d88 4 = .ok (.ldc2_w 314, 3) := by decide +kernel
theorem dJ13_bitCount_95d88_7 : decode cJ13_bitCount_95d88 7 = .ok (.land, 1) := by decide +kernel
theorem dJ13_bitCount_95d88_8 : decode cJ13_bitCount_95d88 8 = .ok (.lsub, 1) := by decide +kernel
theorem dJ13_bitCount_95d88_9 : decode cJ13_bitCount_95d88 9 = .ok (.lstore_n 0, 1) := by decide +kernel
theorem dJ13_bitCount_95d88_10 : decode cJ13_bitCount_95d88 10 = .ok (.lload_n 0, 1) := by decide +kernel
theorem dJ13_bitCount_95d88_11 : decode cJ13_bitCount_95d88 11 = .ok (.ldc2_w 316, 3) := by decide +kernel
theorem dJ13_bitCount_95d88_14 : decode cJ13_bitCount_95d88 14 = .ok (.land, 1) := by decide +kernel
theorem dJ13_bitCount_95d88_15 : decode cJ13_bitCount_95d88 15 = .ok (.lload_n 0, 1) := by decide +kernel
theorem dJ13_bitCount_95d88_16 : decode cJ13_bitCount_95d88 16 = .ok (.iconst 2, 1) := by decide +kernel
theorem dJ13_bitCount_95d88_17 : decode cJ13_bitCount_95d88 17 = .ok (.lushr, 1) := by decide +kernel
theorem dJ13_bitCount_95d88_18 : decode cJ13_bitCount_95d88 18 = .ok (.ldc2_w 316, 3) := by decide +kernel
theorem dJ13_bitCount_95d88_21 : decode cJ13_bitCount_95d88 21 = .ok (.land, 1) := by decide +kernel
theorem dJ13_bitCount_95d88_22 : decode cJ13_bitCount_95d88 22 = .ok (.ladd, 1) := by decide +kernel
theorem dJ13_bitCount_95d88_23 : decode cJ13_bitCount_95d88 23 = .ok (.lstore_n 0, 1) := by decide +kernel
theorem dJ13_bitCount_95d88_24 : decode cJ13_bitCount_95d88 24 = .ok (.lload_n 0, 1) := by decide +kernel
theorem dJ13_bitCount_95d88_25 : decode cJ13_bitCount_95d88 25 = .ok (.lload_n 0, 1) := by decide +kernel
theorem dJ13_bitCount_95d88_26 : decode cJ13_bitCount_95d88 26 = .ok (.iconst 4, 1) := by decide +kernel
theorem dJ13_bitCount_95d88_27 : decode cJ13_bitCount_95d88 27 = .ok (.lushr, 1) := by decide +kernel
theorem dJ13_bitCount_95d88_28 : decode cJ13_bitCount_95d88 28 = .ok (.ladd, 1) := by decide +kernel
theorem dJ13_bitCount_95d88_29 : decode cJ13_bitCount_95d88 29 = .ok (.ldc2_w 318, 3) := by decide +kernel
theorem dJ13_bitCount_95d88_32 : decode cJ13_bitCount_95d88 32 = .ok (.land, 1) := by decide +kernel
theorem dJ13_bitCount_95d88_33 : decode cJ13_bitCount_95d88 33 = .ok (.lstore_n 0, 1) := by decide +kernel
theorem dJ13_bitCount_95d88_34 : decode cJ13_bitCount_95d88 34 = .ok (.lload_n 0, 1) := by decide +kernel
theorem dJ13_bitCount_95d88_35 : decode cJ13_bitCount_95d88 35 = .ok (.lload_n 0, 1) := by decide +kernel
theorem dJ13_bitCount_95d88_36 : decode cJ13_bitCount_95d88 36 = .ok (.bipush 8, 2) := by decide +kernel
theorem dJ13_bitCount_95d88_38 : decode cJ13_bitCount_95d88 38 = .ok (.lushr, 1) := by decide +kernel
theorem dJ13_bitCount_95d88_39 : decode cJ13_bitCount_95d88 39 = .ok (.ladd, 1) := by decide +kernel
theorem dJ13_bitCount_95d88_40 : decode cJ13_bitCount_95d88 40 = .ok (.lstore_n 0, 1) := by decide +kernel
theorem dJ13_bitCount_95d88_41 : decode cJ13_bitCount_95d88 41 = .ok (.lload_n 0, 1) := by decide +kernel
theorem dJ13_bitCount_95d88_42 : decode cJ13_bitCount_95d88 42 = .ok (.lload_n 0, 1) := by decide +kernel
theorem dJ13_bitCount_95d88_43 : decode cJ13_bitCount_95d88 43 = .ok (.bipush 16, 2) := by decide +kernel
theorem dJ13_bitCount_95d88_45 : decode cJ13_bitCount_95d88 45 = .ok (.lushr, 1) := by decide +kernel
theorem dJ13_bitCount_95d88_46 : decode cJ13_bitCount_95d88 46 = .ok (.ladd, 1) := by decide +kernel
theorem dJ13_bitCount_95d88_47 : decode cJ13_bitCount_95d88 47 = .ok (.lstore_n 0, 1) := by decide +kernel
theorem dJ13_bitCount_95d88_48 : decode cJ13_bitCount_95d88 48 = .ok (.lload_n 0, 1) := by decide +kernel
theorem dJ13_bitCount_95d88_49 : decode cJ13_bitCount_95d88 49 = .ok (.lload_n 0, 1) := by decide +kernel
theorem dJ13_bitCount_95d88_50 : decode cJ13_bitCount_95d88 50 = .ok (.bipush 32, 2) := by decide +kernel
theorem dJ13_bitCount_95d88_52 : decode cJ13_bitCount_95d88 52 = .ok (.lushr, 1) := by decide +kernel
theorem dJ13_bitCount_95d88_53 : decode cJ13_bitCount_95d88 53 = .ok (.ladd, 1) := by decide +kernel
theorem dJ13_bitCount_95d88_54 : decode cJ13_bitCount_95d88 54 = .ok (.lstore_n 0, 1) := by decide +kernel
theorem dJ13_bitCount_95d88_55 : decode cJ13_bitCount_95d88 55 = .ok (.lload_n 0, 1) := by decide +kernel
theorem dJ13_bitCount_95d88_56 : decode cJ13_bitCount_95d88 56 = .ok (.l2i, 1) := by decide +kernel
theorem dJ13_bitCount_95d88_57 : decode cJ13_bitCount_95d88 57 = .ok (.bipush 127, 2) := by decide +kernel
theorem dJ13_bitCount_95d88_59 : decode cJ13_bitCount_95d88 59 = .ok (.iand, 1) := by decide +kernel
theorem dJ13_bitCount_95d88_60 : decode cJ13_bitCount_95d88 60 = .ok (.ireturn, 1) := by decide +kernel
abbrev cJ9_floorMod_7cf53 : ByteArray := prog_11_method_50_code
abbrev mJ9_floorMod_7cf53 : MethodName := { cls := "java/lang/Math", name := "floorMod", desc := "(II)I" }
theorem mwJ9_floorMod_7cf53 : MWS mJ9_floorMod_7cf53 (.code mJ9_floorMod_7cf53 cJ9_floorMod_7cf53 3 (some .int)) 2 := ⟨w403, w402, w104, by decide +kernel⟩
theorem dJ9_floorMod_7cf53_0 : decode cJ9_floorMod_7cf53 0 = .ok (.iload_n 0, 1) := by decide +kernel
theorem dJ9_floorMod_7cf53_1 : decode cJ9_floorMod_7cf53 1 = .ok (.iload_n 1, 1) := by decide +kernel
theorem dJ9_floorMod_7cf53_2 : decode cJ9_floorMod_7cf53 2 = .ok (.irem, 1) := by decide +kernel
theorem dJ9_floorMod_7cf53_3 : decode cJ9_floorMod_7cf53 3 = .ok (.istore_n 2, 1) := by decide +kernel
theorem dJ9_floorMod_7cf53_4 : decode cJ9_floorMod_7cf53 4 = .ok (.iload_n 0, 1) := by decide +kernel
theorem dJ9_floorMod_7cf53_5 : decode cJ9_floorMod_7cf53 5 = .ok (.iload_n 1, 1) := by decide +kernel
theorem dJ9_floorMod_7cf53_6 : decode cJ9_floorMod_7cf53 6 = .ok (.ixor, 1) := by decide +kernel
theorem dJ9_floorMod_7cf53_7 : decode cJ9_floorMod_7cf53 7 = .ok (.ifCond .ge 11, 3) := by decide +kernel
theorem dJ9_floorMod_7cf53_10 : decode cJ9_floorMod_7cf53 10 = .ok (.iload_n 2, 1) := by decide +kernel
theorem dJ9_floorMod_7cf53_11 : decode cJ9_floorMod_7cf53 11 = .ok (.ifCond .eq 7, 3) := by decide +kernel
theorem dJ9_floorMod_7cf53_14 : decode cJ9_floorMod_7cf53 14 = .ok (.iload_n 2, 1) := by decide +kernel
theorem dJ9_floorMod_7cf53_15 : decode cJ9_floorMod_7cf53 15 = .ok (.iload_n 1, 1) := by decide +kernel
theorem dJ9_floorMod_7cf53_16 : decode cJ9_floorMod_7cf53 16 = .ok (.iadd, 1) := by decide +kernel
theorem dJ9_floorMod_7cf53_17 : decode cJ9_floorMod_7cf53 17 = .ok (.ireturn, 1) := by decide +kernel
theorem dJ9_floorMod_7cf53_18 : decode cJ9_floorMod_7cf53 18 = .ok (.iload_n 2, 1) := by decide +kernel
theorem dJ9_floorMod_7cf53_19 : decode cJ9_floorMod_7cf53 19 = .ok (.ireturn, 1) := by decide +kernel
abbrev cJ0_charAt_5068e : ByteArray := prog_12_method_56_code
abbrev mJ0_charAt_5068e : MethodName := { cls := "java/lang/String", name := "charAt", desc := "(I)C" }
theorem mwJ0_charAt_5068e : MWV mJ0_charAt_5068e (.code mJ0_charAt_5068e cJ0_charAt_5068e 2 (some .char)) "java/lang/String" 1 := ⟨w478, w476, w477, w105, w105, by decide +kernel⟩
theorem dJ0_charAt_5068e_0 : decode cJ0_charAt_5068e 0 = .ok (.aload_n 0, 1) := by decide +kernel
theorem dJ0_charAt_5068e_1 : decode cJ0_charAt_5068e 1 = .ok (.invokevirtual 492, 3) := by decide +kernel
theorem dJ0_charAt_5068e_4 : decode cJ0_charAt_5068e 4 = .ok (.ifCond .eq 12, 3) := by decide +kernel
theorem dJ0_charAt_5068e_7 : decode cJ0_charAt_5068e 7 = .ok (.aload_n 0, 1) := by decide +kernel
theorem dJ0_charAt_5068e_8 : decode cJ0_charAt_5068e 8 = .ok (.getfield 9, 3) := by decide +kernel
theorem dJ0_charAt_5068e_11 : decode cJ0_charAt_5068e 11 = .ok (.iload_n 1, 1) := by decide +kernel
theorem dJ0_charAt_5068e_12 : decode cJ0_charAt_5068e 12 = .ok (.invokestatic 495, 3) := by decide +kernel
theorem dJ0_charAt_5068e_15 : decode cJ0_charAt_5068e 15 = .ok (.ireturn, 1) := by decide +kernel
theorem dJ0_charAt_5068e_16 : decode cJ0_charAt_5068e 16 = .ok (.aload_n 0, 1) := by decide +kernel
theorem dJ0_charAt_5068e_17 : decode cJ0_charAt_5068e 17 = .ok (.getfield 9, 3) := by decide +kernel
theorem dJ0_charAt_5068e_20 : decode cJ0_charAt_5068e 20 = .ok (.iload_n 1, 1) := by decide +kernel
theorem dJ0_charAt_5068e_21 : decode cJ0_charAt_5068e 21 = .ok (.invokestatic 498, 3) := by decide +kernel
theorem dJ0_charAt_5068e_24 : decode cJ0_charAt_5068e 24 = .ok (.ireturn, 1) := by decide +kernel
abbrev cJ0_checkIndex_df160 : ByteArray := prog_12_method_155_code
abbrev mJ0_checkIndex_df160 : MethodName := { cls := "java/lang/String", name := "checkIndex", desc := "(II)V" }
theorem mwJ0_checkIndex_df160 : MWS mJ0_checkIndex_df160 (.code mJ0_checkIndex_df160 cJ0_checkIndex_df160 2 none) 2 := ⟨w488, w487, w105, by decide +kernel⟩
theorem dJ0_checkIndex_df160_0 : decode cJ0_checkIndex_df160 0 = .ok (.iload_n 0, 1) := by decide +kernel
theorem dJ0_checkIndex_df160_1 : decode cJ0_checkIndex_df160 1 = .ok (.iload_n 1, 1) := by decide +kernel
theorem dJ0_checkIndex_df160_2 : decode cJ0_checkIndex_df160 2 = .ok (.getstatic 1053, 3) := by decide +kernel
theorem dJ0_checkIndex_df160_5 : decode cJ0_checkIndex_df160 5 = .ok (.invokestatic 1059, 3) := by decide +kernel
theorem dJ0_checkIndex_df160_8 : decode cJ0_checkIndex_df160 8 = .ok (.pop, 1) := by decide +kernel
theorem dJ0_checkIndex_df160_9 : decode cJ0_checkIndex_df160 9 = .ok (.return_, 1) := by decide +kernel
abbrev cJ0_coder_7d493 : ByteArray := prog_12_method_152_code
abbrev mJ0_coder_7d493 : MethodName := { cls := "java/lang/String", name := "coder", desc := "()B" }
theorem mwJ0_coder_7d493 : MWV mJ0_coder_7d493 (.code mJ0_coder_7d493 cJ0_coder_7d493 1 (some .byte)) "java/lang/String" 0 := ⟨w472, w470, w471, w105, w105, by decide +kernel⟩
theorem dJ0_coder_7d493_0 : decode cJ0_coder_7d493 0 = .ok (.getstatic 38, 3) := by decide +kernel
theorem dJ0_coder_7d493_3 : decode cJ0_coder_7d493 3 = .ok (.ifCond .eq 10, 3) := by decide +kernel
theorem dJ0_coder_7d493_6 : decode cJ0_coder_7d493 6 = .ok (.aload_n 0, 1) := by decide +kernel
theorem dJ0_coder_7d493_7 : decode cJ0_coder_7d493 7 = .ok (.getfield 15, 3) := by decide +kernel
theorem dJ0_coder_7d493_10 : decode cJ0_coder_7d493 10 = .ok (.goto 4, 3) := by decide +kernel
theorem dJ0_coder_7d493_13 : decode cJ0_coder_7d493 13 = .ok (.iconst 1, 1) := by decide +kernel
theorem dJ0_coder_7d493_14 : decode cJ0_coder_7d493 14 = .ok (.ireturn, 1) := by decide +kernel
abbrev cJ0_indexOf_0f7a4 : ByteArray := prog_12_method_79_code
abbrev mJ0_indexOf_0f7a4 : MethodName := { cls := "java/lang/String", name := "indexOf", desc := "(I)I" }
theorem mwJ0_indexOf_0f7a4 : MWV mJ0_indexOf_0f7a4 (.code mJ0_indexOf_0f7a4 cJ0_indexOf_0f7a4 2 (some .int)) "java/lang/String" 1 := ⟨w521, w519, w520, w105, w105, by decide +kernel⟩
theorem dJ0_indexOf_0f7a4_0 : decode cJ0_indexOf_0f7a4 0 = .ok (.aload_n 0, 1) := by decide +kernel
theorem dJ0_indexOf_0f7a4_1 : decode cJ0_indexOf_0f7a4 1 = .ok (.iload_n 1, 1) := by decide +kernel
theorem dJ0_indexOf_0f7a4_2 : decode cJ0_indexOf_0f7a4 2 = .ok (.iconst 0, 1) := by decide +kernel
theorem dJ0_indexOf_0f7a4_3 : decode cJ0_indexOf_0f7a4 3 = .ok (.invokevirtual 633, 3) := by decide +kernel
theorem dJ0_indexOf_0f7a4_6 : decode cJ0_indexOf_0f7a4 6 = .ok (.ireturn, 1) := by decide +kernel
abbrev cJ0_indexOf_7cf53 : ByteArray := prog_12_method_80_code
abbrev mJ0_indexOf_7cf53 : MethodName := { cls := "java/lang/String", name := "indexOf", desc := "(II)I" }
theorem mwJ0_indexOf_7cf53 : MWV mJ0_indexOf_7cf53 (.code mJ0_indexOf_7cf53 cJ0_indexOf_7cf53 3 (some .int)) "java/lang/String" 2 := ⟨w525, w523, w524, w105, w105, by decide +kernel⟩
theorem dJ0_indexOf_7cf53_0 : decode cJ0_indexOf_7cf53 0 = .ok (.aload_n 0, 1) := by decide +kernel
theorem dJ0_indexOf_7cf53_1 : decode cJ0_indexOf_7cf53 1 = .ok (.invokevirtual 492, 3) := by decide +kernel
theorem dJ0_indexOf_7cf53_4 : decode cJ0_indexOf_7cf53 4 = .ok (.ifCond .eq 19, 3) := by decide +kernel
theorem dJ0_indexOf_7cf53_7 : decode cJ0_indexOf_7cf53 7 = .ok (.aload_n 0, 1) := by decide +kernel
theorem dJ0_indexOf_7cf53_8 : decode cJ0_indexOf_7cf53 8 = .ok (.getfield 9, 3) := by decide +kernel
theorem dJ0_indexOf_7cf53_11 : decode cJ0_indexOf_7cf53 11 = .ok (.iload_n 1, 1) := by decide +kernel
theorem dJ0_indexOf_7cf53_12 : decode cJ0_indexOf_7cf53 12 = .ok (.iload_n 2, 1) := by decide +kernel
theorem dJ0_indexOf_7cf53_13 : decode cJ0_indexOf_7cf53 13 = .ok (.aload_n 0, 1) := by decide +kernel
theorem dJ0_indexOf_7cf53_14 : decode cJ0_indexOf_7cf53 14 = .ok (.invokevirtual 505, 3) := by decide +kernel
theorem dJ0_indexOf_7cf53_17 : decode cJ0_indexOf_7cf53 17 = .ok (.invokestatic 637, 3) := by decide +kernel
theorem dJ0_indexOf_7cf53_20 : decode cJ0_indexOf_7cf53 20 = .ok (.goto 16, 3) := by decide +kernel
theorem dJ0_indexOf_7cf53_23 : decode cJ0_indexOf_7cf53 23 = .ok (.aload_n 0, 1) := by decide +kernel
theorem dJ0_indexOf_7cf53_24 : decode cJ0_indexOf_7cf53 24 = .ok (.getfield 9, 3) := by decide +kernel
theorem dJ0_indexOf_7cf53_27 : decode cJ0_indexOf_7cf53 27 = .ok (.iload_n 1, 1) := by decide +kernel
theorem dJ0_indexOf_7cf53_28 : decode cJ0_indexOf_7cf53 28 = .ok (.iload_n 2, 1) := by decide +kernel
theorem dJ0_indexOf_7cf53_29 : decode cJ0_indexOf_7cf53 29 = .ok (.aload_n 0, 1) := by decide +kernel
theorem dJ0_indexOf_7cf53_30 : decode cJ0_indexOf_7cf53 30 = .ok (.invokevirtual 505, 3) := by decide +kernel
theorem dJ0_indexOf_7cf53_33 : decode cJ0_indexOf_7cf53 33 = .ok (.invokestatic 640, 3) := by decide +kernel
theorem dJ0_indexOf_7cf53_36 : decode cJ0_indexOf_7cf53 36 = .ok (.ireturn, 1) := by decide +kernel
abbrev cJ0_isLatin1_aae02 : ByteArray := prog_12_method_154_code
abbrev mJ0_isLatin1_aae02 : MethodName := { cls := "java/lang/String", name := "isLatin1", desc := "()Z" }
theorem mwJ0_isLatin1_aae02 : MWV mJ0_isLatin1_aae02 (.code mJ0_isLatin1_aae02 cJ0_isLatin1_aae02 1 (some .boolean)) "java/lang/String" 0 := ⟨w482, w480, w481, w105, w105, by decide +kernel⟩
theorem dJ0_isLatin1_aae02_0 : decode cJ0_isLatin1_aae02 0 = .ok (.getstatic 38, 3) := by decide +kernel
theorem dJ0_isLatin1_aae02_3 : decode cJ0_isLatin1_aae02 3 = .ok (.ifCond .eq 14, 3) := by decide +kernel
theorem dJ0_isLatin1_aae02_6 : decode cJ0_isLatin1_aae02 6 = .ok (.aload_n 0, 1) := by decide +kernel
theorem dJ0_isLatin1_aae02_7 : decode cJ0_isLatin1_aae02 7 = .ok (.getfield 15, 3) := by decide +kernel
theorem dJ0_isLatin1_aae02_10 : decode cJ0_isLatin1_aae02 10 = .ok (.ifCond .ne 7, 3) := by decide +kernel
theorem dJ0_isLatin1_aae02_13 : decode cJ0_isLatin1_aae02 13 = .ok (.iconst 1, 1) := by decide +kernel
theorem dJ0_isLatin1_aae02_14 : decode cJ0_isLatin1_aae02 14 = .ok (.goto 4, 3) := by decide +kernel
theorem dJ0_isLatin1_aae02_17 : decode cJ0_isLatin1_aae02 17 = .ok (.iconst 0, 1) := by decide +kernel
theorem dJ0_isLatin1_aae02_18 : decode cJ0_isLatin1_aae02 18 = .ok (.ireturn, 1) := by decide +kernel
abbrev cJ0_length_8abf5 : ByteArray := prog_12_method_54_code
abbrev mJ0_length_8abf5 : MethodName := { cls := "java/lang/String", name := "length", desc := "()I" }
theorem mwJ0_length_8abf5 : MWV mJ0_length_8abf5 (.code mJ0_length_8abf5 cJ0_length_8abf5 1 (some .int)) "java/lang/String" 0 := ⟨w468, w466, w467, w105, w105, by decide +kernel⟩
theorem dJ0_length_8abf5_0 : decode cJ0_length_8abf5 0 = .ok (.aload_n 0, 1) := by decide +kernel
theorem dJ0_length_8abf5_1 : decode cJ0_length_8abf5 1 = .ok (.getfield 9, 3) := by decide +kernel
theorem dJ0_length_8abf5_4 : decode cJ0_length_8abf5 4 = .ok (.arraylength, 1) := by decide +kernel
theorem dJ0_length_8abf5_5 : decode cJ0_length_8abf5 5 = .ok (.aload_n 0, 1) := by decide +kernel
theorem dJ0_length_8abf5_6 : decode cJ0_length_8abf5 6 = .ok (.invokevirtual 335, 3) := by decide +kernel
theorem dJ0_length_8abf5_9 : decode cJ0_length_8abf5 9 = .ok (.ishr, 1) := by decide +kernel
theorem dJ0_length_8abf5_10 : decode cJ0_length_8abf5 10 = .ok (.ireturn, 1) := by decide +kernel
abbrev cJ1_canEncode_9a6ad : ByteArray := prog_13_method_4_code
abbrev mJ1_canEncode_9a6ad : MethodName := { cls := "java/lang/StringLatin1", name := "canEncode", desc := "(I)Z" }
theorem mwJ1_canEncode_9a6ad : MWS mJ1_canEncode_9a6ad (.code mJ1_canEncode_9a6ad cJ1_canEncode_9a6ad 1 (some .boolean)) 1 := ⟨w532, w531, w106, by decide +kernel⟩
theorem dJ1_canEncode_9a6ad_0 : decode cJ1_canEncode_9a6ad 0 = .ok (.iload_n 0, 1) := by decide +kernel
theorem dJ1_canEncode_9a6ad_1 : decode cJ1_canEncode_9a6ad 1 = .ok (.ifCond .lt 14, 3) := by decide +kernel
theorem dJ1_canEncode_9a6ad_4 : decode cJ1_canEncode_9a6ad 4 = .ok (.iload_n 0, 1) := by decide +kernel
theorem dJ1_canEncode_9a6ad_5 : decode cJ1_canEncode_9a6ad 5 = .ok (.sipush 255, 3) := by decide +kernel
theorem dJ1_canEncode_9a6ad_8 : decode cJ1_canEncode_9a6ad 8 = .ok (.if_icmp .gt 7, 3) := by decide +kernel
theorem dJ1_canEncode_9a6ad_11 : decode cJ1_canEncode_9a6ad 11 = .ok (.iconst 1, 1) := by decide +kernel
theorem dJ1_canEncode_9a6ad_12 : decode cJ1_canEncode_9a6ad 12 = .ok (.goto 4, 3) := by decide +kernel
theorem dJ1_canEncode_9a6ad_15 : decode cJ1_canEncode_9a6ad 15 = .ok (.iconst 0, 1) := by decide +kernel
theorem dJ1_canEncode_9a6ad_16 : decode cJ1_canEncode_9a6ad 16 = .ok (.ireturn, 1) := by decide +kernel
abbrev cJ1_charAt_3b067 : ByteArray := prog_13_method_2_code
abbrev mJ1_charAt_3b067 : MethodName := { cls := "java/lang/StringLatin1", name := "charAt", desc := "([BI)C" }
theorem mwJ1_charAt_3b067 : MWS mJ1_charAt_3b067 (.code mJ1_charAt_3b067 cJ1_charAt_3b067 2 (some .char)) 2 := ⟨w485, w484, w106, by decide +kernel⟩
theorem dJ1_charAt_3b067_0 : decode cJ1_charAt_3b067 0 = .ok (.iload_n 1, 1) := by decide +kernel
theorem dJ1_charAt_3b067_1 : decode cJ1_charAt_3b067 1 = .ok (.aload_n 0, 1) := by decide +kernel
theorem dJ1_charAt_3b067_2 : decode cJ1_charAt_3b067 2 = .ok (.arraylength, 1) := by decide +kernel
theorem dJ1_charAt_3b067_3 : decode cJ1_charAt_3b067 3 = .ok (.invokestatic 9, 3) := by decide +kernel
theorem dJ1_charAt_3b067_6 : decode cJ1_charAt_3b067 6 = .ok (.aload_n 0, 1) := by decide +kernel
theorem dJ1_charAt_3b067_7 : decode cJ1_charAt_3b067 7 = .ok (.iload_n 1, 1) := by decide +kernel
theorem dJ1_charAt_3b067_8 : decode cJ1_charAt_3b067 8 = .ok (.baload, 1) := by decide +kernel
theorem dJ1_charAt_3b067_9 : decode cJ1_charAt_3b067 9 = .ok (.sipush 255, 3) := by decide +kernel
theorem dJ1_charAt_3b067_12 : decode cJ1_charAt_3b067 12 = .ok (.iand, 1) := by decide +kernel
theorem dJ1_charAt_3b067_13 : decode cJ1_charAt_3b067 13 = .ok (.i2c, 1) := by decide +kernel
theorem dJ1_charAt_3b067_14 : decode cJ1_charAt_3b067 14 = .ok (.ireturn, 1) := by decide +kernel
abbrev cJ1_indexOfChar_4cfef : ByteArray := prog_13_method_23_code
abbrev mJ1_indexOfChar_4cfef : MethodName := { cls := "java/lang/StringLatin1", name := "indexOfChar", desc := "([BIII)I" }
theorem mwJ1_indexOfChar_4cfef : MWS mJ1_indexOfChar_4cfef (.code mJ1_indexOfChar_4cfef cJ1_indexOfChar_4cfef 6 (some .int)) 4 := ⟨w537, w536, w106, by decide +kernel⟩
theorem dJ1_indexOfChar_4cfef_0 : decode cJ1_indexOfChar_4cfef 0 = .ok (.iload_n 1, 1) := by decide +kernel
theorem dJ1_indexOfChar_4cfef_1 : decode cJ1_indexOfChar_4cfef 1 = .ok (.i2b, 1) := by decide +kernel
theorem dJ1_indexOfChar_4cfef_2 : decode cJ1_indexOfChar_4cfef 2 = .ok (.istore 4, 2) := by decide +kernel
theorem dJ1_indexOfChar_4cfef_4 : decode cJ1_indexOfChar_4cfef 4 = .ok (.iload_n 2, 1) := by decide +kernel
theorem dJ1_indexOfChar_4cfef_5 : decode cJ1_indexOfChar_4cfef 5 = .ok (.istore 5, 2) := by decide +kernel
theorem dJ1_indexOfChar_4cfef_7 : decode cJ1_indexOfChar_4cfef 7 = .ok (.iload 5, 2) := by decide +kernel
theorem dJ1_indexOfChar_4cfef_9 : decode cJ1_indexOfChar_4cfef 9 = .ok (.iload_n 3, 1) := by decide +kernel
theorem dJ1_indexOfChar_4cfef_10 : decode cJ1_indexOfChar_4cfef 10 = .ok (.if_icmp .ge 21, 3) := by decide +kernel
theorem dJ1_indexOfChar_4cfef_13 : decode cJ1_indexOfChar_4cfef 13 = .ok (.aload_n 0, 1) := by decide +kernel
theorem dJ1_indexOfChar_4cfef_14 : decode cJ1_indexOfChar_4cfef 14 = .ok (.iload 5, 2) := by decide +kernel
theorem dJ1_indexOfChar_4cfef_16 : decode cJ1_indexOfChar_4cfef 16 = .ok (.baload, 1) := by decide +kernel
theorem dJ1_indexOfChar_4cfef_17 : decode cJ1_indexOfChar_4cfef 17 = .ok (.iload 4, 2) := by decide +kernel
theorem dJ1_indexOfChar_4cfef_19 : decode cJ1_indexOfChar_4cfef 19 = .ok (.if_icmp .ne 6, 3) := by decide +kernel
theorem dJ1_indexOfChar_4cfef_22 : decode cJ1_indexOfChar_4cfef 22 = .ok (.iload 5, 2) := by decide +kernel
theorem dJ1_indexOfChar_4cfef_24 : decode cJ1_indexOfChar_4cfef 24 = .ok (.ireturn, 1) := by decide +kernel
theorem dJ1_indexOfChar_4cfef_25 : decode cJ1_indexOfChar_4cfef 25 = .ok (.iinc 5 1, 3) := by decide +kernel
theorem dJ1_indexOfChar_4cfef_28 : decode cJ1_indexOfChar_4cfef 28 = .ok (.goto (-21), 3) := by decide +kernel
theorem dJ1_indexOfChar_4cfef_31 : decode cJ1_indexOfChar_4cfef 31 = .ok (.iconst (-1), 1) := by decide +kernel
theorem dJ1_indexOfChar_4cfef_32 : decode cJ1_indexOfChar_4cfef 32 = .ok (.ireturn, 1) := by decide +kernel
abbrev cJ1_indexOf_4cfef : ByteArray := prog_13_method_22_code
abbrev mJ1_indexOf_4cfef : MethodName := { cls := "java/lang/StringLatin1", name := "indexOf", desc := "([BIII)I" }
theorem mwJ1_indexOf_4cfef : MWS mJ1_indexOf_4cfef (.code mJ1_indexOf_4cfef cJ1_indexOf_4cfef 4 (some .int)) 4 := ⟨w529, w528, w106, by decide +kernel⟩
theorem dJ1_indexOf_4cfef_0 : decode cJ1_indexOf_4cfef 0 = .ok (.iload_n 1, 1) := by decide +kernel
theorem dJ1_indexOf_4cfef_1 : decode cJ1_indexOf_4cfef 1 = .ok (.invokestatic 88, 3) := by decide +kernel
theorem dJ1_indexOf_4cfef_4 : decode cJ1_indexOf_4cfef 4 = .ok (.ifCond .ne 5, 3) := by decide +kernel
theorem dJ1_indexOf_4cfef_7 : decode cJ1_indexOf_4cfef 7 = .ok (.iconst (-1), 1) := by decide +kernel
theorem dJ1_indexOf_4cfef_8 : decode cJ1_indexOf_4cfef 8 = .ok (.ireturn, 1) := by decide +kernel
theorem dJ1_indexOf_4cfef_9 : decode cJ1_indexOf_4cfef 9 = .ok (.iload_n 2, 1) := by decide +kernel
theorem dJ1_indexOf_4cfef_10 : decode cJ1_indexOf_4cfef 10 = .ok (.iconst 0, 1) := by decide +kernel
theorem dJ1_indexOf_4cfef_11 : decode cJ1_indexOf_4cfef 11 = .ok (.invokestatic 92, 3) := by decide +kernel
theorem dJ1_indexOf_4cfef_14 : decode cJ1_indexOf_4cfef 14 = .ok (.istore_n 2, 1) := by decide +kernel
theorem dJ1_indexOf_4cfef_15 : decode cJ1_indexOf_4cfef 15 = .ok (.iload_n 3, 1) := by decide +kernel
theorem dJ1_indexOf_4cfef_16 : decode cJ1_indexOf_4cfef 16 = .ok (.aload_n 0, 1) := by decide +kernel
theorem dJ1_indexOf_4cfef_17 : decode cJ1_indexOf_4cfef 17 = .ok (.arraylength, 1) := by decide +kernel
theorem dJ1_indexOf_4cfef_18 : decode cJ1_indexOf_4cfef 18 = .ok (.invokestatic 38, 3) := by decide +kernel
theorem dJ1_indexOf_4cfef_21 : decode cJ1_indexOf_4cfef 21 = .ok (.istore_n 3, 1) := by decide +kernel
theorem dJ1_indexOf_4cfef_22 : decode cJ1_indexOf_4cfef 22 = .ok (.iload_n 2, 1) := by decide +kernel
theorem dJ1_indexOf_4cfef_23 : decode cJ1_indexOf_4cfef 23 = .ok (.iload_n 3, 1) := by decide +kernel
theorem dJ1_indexOf_4cfef_24 : decode cJ1_indexOf_4cfef 24 = .ok (.if_icmp .lt 5, 3) := by decide +kernel
theorem dJ1_indexOf_4cfef_27 : decode cJ1_indexOf_4cfef 27 = .ok (.iconst (-1), 1) := by decide +kernel
theorem dJ1_indexOf_4cfef_28 : decode cJ1_indexOf_4cfef 28 = .ok (.ireturn, 1) := by decide +kernel
theorem dJ1_indexOf_4cfef_29 : decode cJ1_indexOf_4cfef 29 = .ok (.aload_n 0, 1) := by decide +kernel
theorem dJ1_indexOf_4cfef_30 : decode cJ1_indexOf_4cfef 30 = .ok (.iload_n 1, 1) := by decide +kernel
theorem dJ1_indexOf_4cfef_31 : decode cJ1_indexOf_4cfef 31 = .ok (.iload_n 2, 1) := by decide +kernel
theorem dJ1_indexOf_4cfef_32 : decode cJ1_indexOf_4cfef 32 = .ok (.iload_n 3, 1) := by decide +kernel
theorem dJ1_indexOf_4cfef_33 : decode cJ1_indexOf_4cfef 33 = .ok (.invokestatic 95, 3) := by decide +kernel
theorem dJ1_indexOf_4cfef_36 : decode cJ1_indexOf_4cfef 36 = .ok (.ireturn, 1) := by decide +kernel
abbrev cJ3_checkIndex_8e157 : ByteArray := prog_16_method_11_code
abbrev mJ3_checkIndex_8e157 : MethodName := { cls := "jdk/internal/util/Preconditions", name := "checkIndex", desc := "(IILjava/util/function/BiFunction;)I" }
theorem mwJ3_checkIndex_8e157 : MWS mJ3_checkIndex_8e157 (.code mJ3_checkIndex_8e157 cJ3_checkIndex_8e157 3 (some .int)) 3 := ⟨w493, w492, w107, by decide +kernel⟩
theorem dJ3_checkIndex_8e157_0 : decode cJ3_checkIndex_8e157 0 = .ok (.iload_n 0, 1) := by decide +kernel
theorem dJ3_checkIndex_8e157_1 : decode cJ3_checkIndex_8e157 1 = .ok (.ifCond .lt 8, 3) := by decide +kernel
theorem dJ3_checkIndex_8e157_4 : decode cJ3_checkIndex_8e157 4 = .ok (.iload_n 0, 1) := by decide +kernel
theorem dJ3_checkIndex_8e157_5 : decode cJ3_checkIndex_8e157 5 = .ok (.iload_n 1, 1) := by decide +kernel
theorem dJ3_checkIndex_8e157_6 : decode cJ3_checkIndex_8e157 6 = .ok (.if_icmp .lt 10, 3) := by decide +kernel
theorem dJ3_checkIndex_8e157_9 : decode cJ3_checkIndex_8e157 9 = .ok (.aload_n 2, 1) := by decide +kernel
theorem dJ3_checkIndex_8e157_10 : decode cJ3_checkIndex_8e157 10 = .ok (.iload_n 0, 1) := by decide +kernel
theorem dJ3_checkIndex_8e157_11 : decode cJ3_checkIndex_8e157 11 = .ok (.iload_n 1, 1) := by decide +kernel
theorem dJ3_checkIndex_8e157_12 : decode cJ3_checkIndex_8e157 12 = .ok (.invokestatic 95, 3) := by decide +kernel
theorem dJ3_checkIndex_8e157_15 : decode cJ3_checkIndex_8e157 15 = .ok (.athrow, 1) := by decide +kernel
theorem dJ3_checkIndex_8e157_16 : decode cJ3_checkIndex_8e157 16 = .ok (.iload_n 0, 1) := by decide +kernel
theorem dJ3_checkIndex_8e157_17 : decode cJ3_checkIndex_8e157 17 = .ok (.ireturn, 1) := by decide +kernel
