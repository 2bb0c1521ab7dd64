def fX1_take (a1 : Int32) (σ : Mem) : Option (Int32 × Mem) :=
  if (σ.1 3 0) < 160 then (
    gd (inB (σ.1 3 0) 160) (stp (wr σ 4 (σ.1 3 0) a1) fun σw1 => (
      stp (putI σw1 3 0 ((σw1.1 3 0) + 1)) fun σw2 => (
        some (1, σw2)
      )
    ))
  ) else (
    some (0, σ)
  )
set_option maxHeartbeats 4000000 in
set_option maxRecDepth 100000 in
theorem kX1_take (l : Launch) (g : GG) (cs : CS) (ad : Nat → Nat) (a1 : Int32) (σ : Mem) : CtI l g cs ad (shC g) mX1_take (.code mX1_take cX1_take 2 (some .boolean)) { frames := 0, cells := 0, slots := 0, locals := 0 } [.ref (ad 3), .int a1] σ (fX1_take a1 σ) := by
  refine ctI_intro (own := "KinInTheHeap$Reader") (by decide +kernel) rfl [some (.ref (ad 3)), some (.int a1)] (Nat.le_of_ble_eq_true rfl) rfl ?_
  intro p e s m args below meth c A C hr hlk
  refine tr_aload_n C (i := 0) dX1_take_0 rfl rfl ?_
  refine tr_getI C (k := 0) (ci := 1) rfl rfl rfl inT1 rfl (by decide) w131 dX1_take_1 ?_
  refine tr_sipush C (v := 160) dX1_take_4 (by decide) ?_
  refine tr_icmp_lt C (tgt := 12) dX1_take_7 (by decide) (fun q4 => ?_) (fun q4 => ?_)
  · refine tr_aload_n C (i := 0) dX1_take_12 rfl rfl ?_
    refine tr_getR C (k := 1) (ci := 1) rfl rfl rfl inT1 rfl (by decide) w133 dX1_take_13 ?_
    refine tr_aload_n C (i := 0) dX1_take_16 rfl rfl ?_
    refine tr_getI C (k := 0) (ci := 1) rfl rfl rfl inT1 rfl (by decide) w131 dX1_take_17 ?_
    refine tr_iload_n C (i := 1) dX1_take_20 rfl rfl ?_
    refine tr_iast C (n := 160) (σ' := wr σ 4 (σ.1 3 0) a1) rfl dX1_take_21 rfl (fun h3 => ?_)
    refine tr_stp (fun σw1 eσw1 => ?_)
    refine tr_aload_n C (i := 0) dX1_take_22 rfl rfl ?_
    refine tr_dup C dX1_take_23 rfl ?_
    refine tr_getI C (k := 0) (ci := 1) rfl rfl rfl inT1 rfl (by decide) w131 dX1_take_24 ?_
    refine tr_iconst C (v := 1) dX1_take_27 (by decide) ?_
    refine tr_iadd C dX1_take_28 ?_
    refine tr_putI C (k := 0) (ci := 1) (σ' := putI σw1 3 0 ((σw1.1 3 0) + 1)) rfl rfl rfl inT1 rfl (by decide) tyX1 tyX1_ok nmX1 rfl rfl w131 dX1_take_29 rfl ?_
    refine tr_stp (fun σw2 eσw2 => ?_)
    refine tr_iconst C (v := 1) dX1_take_32 (by decide) ?_
    exact tr_zret C hr hlk rfl dX1_take_33
  · refine tr_iconst C (v := 0) dX1_take_10 (by decide) ?_
    exact tr_zret C hr hlk rfl dX1_take_11
def fX1_clear (σ : Mem) : Option (Mem) :=
  stp (putI σ 3 0 0) fun σw1 => (
    some σw1
  )
set_option maxHeartbeats 4000000 in
set_option maxRecDepth 100000 in
theorem kX1_clear (l : Launch) (g : GG) (cs : CS) (ad : Nat → Nat) (σ : Mem) : CtV l g cs ad (shC g) mX1_clear (.code mX1_clear cX1_clear 1 none) { frames := 0, cells := 0, slots := 0, locals := 0 } [.ref (ad 3)] σ (fX1_clear σ) := by
  refine ctV_intro (own := "KinInTheHeap$Reader") (by decide +kernel) rfl [some (.ref (ad 3))] (Nat.le_of_ble_eq_true rfl) rfl ?_
  intro p e s m args below meth c A C hr hlk
  refine tr_aload_n C (i := 0) dX1_clear_0 rfl rfl ?_
  refine tr_iconst C (v := 0) dX1_clear_1 (by decide) ?_
  refine tr_putI C (k := 0) (ci := 1) (σ' := putI σ 3 0 0) rfl rfl rfl inT1 rfl (by decide) tyX1 tyX1_ok nmX1 rfl rfl w131 dX1_clear_2 rfl ?_
  refine tr_stp (fun σw1 eσw1 => ?_)
  exact tr_vret C hr hlk dX1_clear_5
def fX1_isSmall (a1 : Int32) (σ : Mem) : Option (Int32) :=
  bn1 (fX4_within a1 97 122 σ) fun r1 => (
    gd (isB r1) (some r1)
  )
set_option maxHeartbeats 4000000 in
set_option maxRecDepth 100000 in
theorem kX1_isSmall (l : Launch) (g : GG) (cs : CS) (ad : Nat → Nat) (a1 : Int32) (σ : Mem) : CtI l g cs ad (shC g) mX1_isSmall (.code mX1_isSmall cX1_isSmall 1 (some .boolean)) { frames := 1, cells := 0, slots := 0, locals := 22 } [.int a1] σ (pur (fX1_isSmall a1 σ) σ) := by
  refine ctIP_intro (own := "KinInTheHeap$Reader") (by decide +kernel) rfl [some (.int a1)] (Nat.le_of_ble_eq_true rfl) rfl ?_
  intro p e s m args below meth c A C hr hlk
  refine tr_iload_n C (i := 0) dX1_isSmall_0 rfl rfl ?_
  refine tr_bipush C (v := 97) dX1_isSmall_1 (by decide) ?_
  refine tr_bipush C (v := 122) dX1_isSmall_3 (by decide) ?_
  refine tr_cNIP C (av := [.int a1, .int 97, .int 122]) (st := []) (kX4_within l g cs ad a1 97 122 σ) mwX4_within (C.2.1.2.1.2) ⟨rfl, rfl⟩ ⟨(Nat.le_of_ble_eq_true rfl), (Nat.le_of_ble_eq_true rfl)⟩ rfl rfl (Nat.le_of_ble_eq_true rfl) dX1_isSmall_5 (fun r1 hr1 => ?_)
  exact tr_zretPG C hr hlk dX1_isSmall_8
def fX1_isDigit (a1 : Int32) (σ : Mem) : Option (Int32) :=
  bn1 (fX4_within a1 48 57 σ) fun r1 => (
    gd (isB r1) (some r1)
  )
set_option maxHeartbeats 4000000 in
set_option maxRecDepth 100000 in
theorem kX1_isDigit (l : Launch) (g : GG) (cs : CS) (ad : Nat → Nat) (a1 : Int32) (σ : Mem) : CtI l g cs ad (shC g) mX1_isDigit (.code mX1_isDigit cX1_isDigit 1 (some .boolean)) { frames := 1, cells := 0, slots := 0, locals := 22 } [.int a1] σ (pur (fX1_isDigit a1 σ) σ) := by
  refine ctIP_intro (own := "KinInTheHeap$Reader") (by decide +kernel) rfl [some (.int a1)] (Nat.le_of_ble_eq_true rfl) rfl ?_
  intro p e s m args below meth c A C hr hlk
  refine tr_iload_n C (i := 0) dX1_isDigit_0 rfl rfl ?_
  refine tr_bipush C (v := 48) dX1_isDigit_1 (by decide) ?_
  refine tr_bipush C (v := 57) dX1_isDigit_3 (by decide) ?_
  refine tr_cNIP C (av := [.int a1, .int 48, .int 57]) (st := []) (kX4_within l g cs ad a1 48 57 σ) mwX4_within (C.2.1.2.1.2) ⟨rfl, rfl⟩ ⟨(Nat.le_of_ble_eq_true rfl), (Nat.le_of_ble_eq_true rfl)⟩ rfl rfl (Nat.le_of_ble_eq_true rfl) dX1_isDigit_5 (fun r1 hr1 => ?_)
  exact tr_zretPG C hr hlk dX1_isDigit_8
def fX1_endOfToken_L54 (a1 : Int32) (σ : Mem) (ih54 : Int32 → Option (Int32)) : Int32 → Option (Int32) := fun v => match v with
  | y2_54 =>
    if (σ.1 3 0) ≤ y2_54 then (
      some y2_54
    ) else (
      gd (inB y2_54 160) (
        bn1 (fX1_isDigit (rd σ 4 y2_54) σ) fun r3 => (
          if r3 = 0 then (
            some y2_54
          ) else (
            ih54 (y2_54 + 1)
          )
        )
      )
    )
def fX1_endOfToken_L16 (a1 : Int32) (σ : Mem) (ih16 : Int32 → Option (Int32)) : Int32 → Option (Int32) := fun v => match v with
  | y2_16 =>
    if (σ.1 3 0) ≤ y2_16 then (
      some y2_16
    ) else (
      gd (inB y2_16 160) (
        bn1 (fX1_isSmall (rd σ 4 y2_16) σ) fun r9 => (
          if r9 = 0 then (
            some y2_16
          ) else (
            ih16 (y2_16 + 1)
          )
        )
      )
    )
def fX1_endOfToken (a1 : Int32) (σ : Mem) : Option (Int32) :=
  gd (inB a1 160) (
    bn1 (fX1_isSmall (rd σ 4 a1) σ) fun r1 => (
      if r1 = 0 then (
        gd (inB a1 160) (
          bn1 (fX1_isDigit (rd σ 4 a1) σ) fun r2 => (
            if r2 = 0 then (
              some (a1 + 1)
            ) else (
              loopN (fX1_endOfToken_L54 a1 σ) 1000 (a1 + 1)
            )
          )
        )
      ) else (
        loopN (fX1_endOfToken_L16 a1 σ) 1000 (a1 + 1)
      )
    )
  )
set_option maxHeartbeats 4000000 in
set_option maxRecDepth 100000 in
theorem kX1_endOfToken (l : Launch) (g : GG) (cs : CS) (ad : Nat → Nat) (a1 : Int32) (σ : Mem) : CtI l g cs ad (shC g) mX1_endOfToken (.code mX1_endOfToken cX1_endOfToken 3 (some .int)) { frames := 2, cells := 0, slots := 0, locals := 42 } [.ref (ad 3), .int a1] σ (pur (fX1_endOfToken a1 σ) σ) := by
  refine ctIP_intro (own := "KinInTheHeap$Reader") (by decide +kernel) rfl [some (.ref (ad 3)), some (.int a1), none] (Nat.le_of_ble_eq_true rfl) rfl ?_
  intro p e s m args below meth c A C hr hlk
  refine tr_iload_n C (i := 1) dX1_endOfToken_0 rfl rfl ?_
  refine tr_iconst C (v := 1) dX1_endOfToken_1 (by decide) ?_
  refine tr_iadd C dX1_endOfToken_2 ?_
  refine tr_istore_n C (i := 2) (lv' := [some (.ref (ad 3)), some (.int a1), some (.int (a1 + 1))]) dX1_endOfToken_3 rfl (by decide) rfl ?_
  refine tr_aload_n C (i := 0) dX1_endOfToken_4 rfl rfl ?_
  refine tr_getR C (k := 1) (ci := 1) rfl rfl rfl inT1 rfl (by decide) w133 dX1_endOfToken_5 ?_
  refine tr_iload_n C (i := 1) dX1_endOfToken_8 rfl rfl ?_
  refine tr_iald C (n := 160) rfl dX1_endOfToken_9 (fun h14 => ?_)
  refine tr_cSIP C (av := [.int (rd σ 4 a1)]) (st := []) (kX1_isSmall l g cs ad (rd σ 4 a1) σ) mwX1_isSmall w431 ⟨rfl, rfl⟩ ⟨(Nat.le_of_ble_eq_true rfl), (Nat.le_of_ble_eq_true rfl)⟩ rfl rfl (Nat.le_of_ble_eq_true rfl) dX1_endOfToken_10 (fun r1 hr1 => ?_)
  refine tr_if_eq C (tgt := 42) dX1_endOfToken_13 (by decide) (fun q13 => ?_) (fun q13 => ?_)
  · refine tr_aload_n C (i := 0) dX1_endOfToken_42 rfl rfl ?_
    refine tr_getR C (k := 1) (ci := 1) rfl rfl rfl inT1 rfl (by decide) w133 dX1_endOfToken_43 ?_
    refine tr_iload_n C (i := 1) dX1_endOfToken_46 rfl rfl ?_
    refine tr_iald C (n := 160) rfl dX1_endOfToken_47 (fun h8 => ?_)
    refine tr_cSIP C (av := [.int (rd σ 4 a1)]) (st := []) (kX1_isDigit l g cs ad (rd σ 4 a1) σ) mwX1_isDigit w435 ⟨rfl, rfl⟩ ⟨(Nat.le_of_ble_eq_true rfl), (Nat.le_of_ble_eq_true rfl)⟩ rfl rfl (Nat.le_of_ble_eq_true rfl) dX1_endOfToken_48 (fun r2 hr2 => ?_)
    refine tr_if_eq C (tgt := 80) dX1_endOfToken_51 (by decide) (fun q7 => ?_) (fun q7 => ?_)
    · refine tr_iload_n C (i := 2) dX1_endOfToken_80 rfl rfl ?_
      exact tr_iretP C hr hlk dX1_endOfToken_81
    · refine tr_mask [true, false, true] rfl ?_
      refine tr_loop (b := fX1_endOfToken_L54 a1 σ) (sg := fun v => σ) (lw := fun v => [some (.ref (ad 3)), none, some (.int v)]) (sw := fun v => []) (fun ih54 IH54 v => ?_) 1000 (a1 + 1)
      obtain ⟨y2_54, rfl⟩ : ∃ z, z = v := ⟨v, rfl⟩
      refine tr_st (σ' := σ) (lv' := [some (.ref (ad 3)), none, some (.int y2_54)]) (st' := []) rfl rfl rfl ?_
      refine tr_iload_n C (i := 2) dX1_endOfToken_54 rfl rfl ?_
      refine tr_aload_n C (i := 0) dX1_endOfToken_55 rfl rfl ?_
      refine tr_getI C (k := 0) (ci := 1) rfl rfl rfl inT1 rfl (by decide) w131 dX1_endOfToken_56 ?_
      refine tr_icmp_ge C (tgt := 80) dX1_endOfToken_59 (by decide) (fun q6 => ?_) (fun q6 => ?_)
      · refine tr_iload_n C (i := 2) dX1_endOfToken_80 rfl rfl ?_
        exact tr_iretP C hr hlk dX1_endOfToken_81
      · refine tr_aload_n C (i := 0) dX1_endOfToken_62 rfl rfl ?_
        refine tr_getR C (k := 1) (ci := 1) rfl rfl rfl inT1 rfl (by decide) w133 dX1_endOfToken_63 ?_
        refine tr_iload_n C (i := 2) dX1_endOfToken_66 rfl rfl ?_
        refine tr_iald C (n := 160) rfl dX1_endOfToken_67 (fun h5 => ?_)
        refine tr_cSIP C (av := [.int (rd σ 4 y2_54)]) (st := []) (kX1_isDigit l g cs ad (rd σ 4 y2_54) σ) mwX1_isDigit w435 ⟨rfl, rfl⟩ ⟨(Nat.le_of_ble_eq_true rfl), (Nat.le_of_ble_eq_true rfl)⟩ rfl rfl (Nat.le_of_ble_eq_true rfl) dX1_endOfToken_68 (fun r3 hr3 => ?_)
        refine tr_if_eq C (tgt := 80) dX1_endOfToken_71 (by decide) (fun q4 => ?_) (fun q4 => ?_)
        · refine tr_iload_n C (i := 2) dX1_endOfToken_80 rfl rfl ?_
          exact tr_iretP C hr hlk dX1_endOfToken_81
        · refine tr_iinc C (i := 2) (d := 1) (lv' := [some (.ref (ad 3)), none, some (.int (y2_54 + 1))]) dX1_endOfToken_74 rfl (by decide) (by decide) rfl ?_
          refine tr_goto C (tgt := 54) dX1_endOfToken_77 (by decide) ?_
          exact IH54 (y2_54 + 1)
  · refine tr_mask [true, false, true] rfl ?_
    refine tr_loop (b := fX1_endOfToken_L16 a1 σ) (sg := fun v => σ) (lw := fun v => [some (.ref (ad 3)), none, some (.int v)]) (sw := fun v => []) (fun ih16 IH16 v => ?_) 1000 (a1 + 1)
    obtain ⟨y2_16, rfl⟩ : ∃ z, z = v := ⟨v, rfl⟩
    refine tr_st (σ' := σ) (lv' := [some (.ref (ad 3)), none, some (.int y2_16)]) (st' := []) rfl rfl rfl ?_
    refine tr_iload_n C (i := 2) dX1_endOfToken_16 rfl rfl ?_
    refine tr_aload_n C (i := 0) dX1_endOfToken_17 rfl rfl ?_
    refine tr_getI C (k := 0) (ci := 1) rfl rfl rfl inT1 rfl (by decide) w131 dX1_endOfToken_18 ?_
    refine tr_icmp_ge C (tgt := 80) dX1_endOfToken_21 (by decide) (fun q12 => ?_) (fun q12 => ?_)
    · refine tr_iload_n C (i := 2) dX1_endOfToken_80 rfl rfl ?_
      exact tr_iretP C hr hlk dX1_endOfToken_81
    · refine tr_aload_n C (i := 0) dX1_endOfToken_24 rfl rfl ?_
      refine tr_getR C (k := 1) (ci := 1) rfl rfl rfl inT1 rfl (by decide) w133 dX1_endOfToken_25 ?_
      refine tr_iload_n C (i := 2) dX1_endOfToken_28 rfl rfl ?_
      refine tr_iald C (n := 160) rfl dX1_endOfToken_29 (fun h11 => ?_)
      refine tr_cSIP C (av := [.int (rd σ 4 y2_16)]) (st := []) (kX1_isSmall l g cs ad (rd σ 4 y2_16) σ) mwX1_isSmall w431 ⟨rfl, rfl⟩ ⟨(Nat.le_of_ble_eq_true rfl), (Nat.le_of_ble_eq_true rfl)⟩ rfl rfl (Nat.le_of_ble_eq_true rfl) dX1_endOfToken_30 (fun r9 hr9 => ?_)
      refine tr_if_eq C (tgt := 80) dX1_endOfToken_33 (by decide) (fun q10 => ?_) (fun q10 => ?_)
      · refine tr_iload_n C (i := 2) dX1_endOfToken_80 rfl rfl ?_
        exact tr_iretP C hr hlk dX1_endOfToken_81
      · refine tr_iinc C (i := 2) (d := 1) (lv' := [some (.ref (ad 3)), none, some (.int (y2_16 + 1))]) dX1_endOfToken_36 rfl (by decide) (by decide) rfl ?_
        refine tr_goto C (tgt := 16) dX1_endOfToken_39 (by decide) ?_
        exact IH16 (y2_16 + 1)
def fX1_wordOf (a1 : Int32) (σ : Mem) : Option (Nat) :=
  if a1 = 0 then (
    some 0
  ) else (
    if a1 = 1 then (
      some 1
    ) else (
      if a1 = 2 then (
        some 2
      ) else (
        if a1 = 3 then (
          some 3
        ) else (
          if a1 = 4 then (
            some 4
          ) else (
            if a1 = 5 then (
              some 5
            ) else (
              if a1 = 6 then (
                some 6
              ) else (
                if a1 = 7 then (
                  some 7
                ) else (
                  if a1 = 8 then (
                    some 8
                  ) else (
                    if a1 = 9 then (
                      some 9
                    ) else (
                      if a1 = 10 then (
                        some 10
                      ) else (
                        some 11
                      )
                    )
                  )
                )
              )
            )
          )
        )
      )
    )
  )
set_option maxHeartbeats 4000000 in
set_option maxRecDepth 100000 in
theorem kX1_wordOf (l : Launch) (g : GG) (cs : CS) (ad : Nat → Nat) (a1 : Int32) (σ : Mem) : CtS l g cs ad (shC g) mX1_wordOf (.code mX1_wordOf cX1_wordOf 1 (some (.object "java/lang/String"))) { frames := 0, cells := 0, slots := 0, locals := 0 } [.int a1] σ (fX1_wordOf a1 σ) := by
  refine ctS_intro (own := "KinInTheHeap$Reader") (by decide +kernel) rfl [some (.int a1)] (Nat.le_of_ble_eq_true rfl) rfl ?_
  intro p e s m args below meth c A C hr hlk
  refine tr_iload_n C (i := 0) dX1_wordOf_0 rfl rfl ?_
  refine tr_ite (fun q1 => ?_) (fun q1 => ?_)
  · refine tr_tin C (k := 0) (tgt := 60) dX1_wordOf_1 q1 (by decide) (by decide) rfl (by decide) ?_
    refine tr_ldcS C (i := 0) (by decide) dX1_wordOf_60 ?_
    exact tr_retS C hr hlk dX1_wordOf_62
  · refine tr_ite (fun q2 => ?_) (fun q2 => ?_)
    · refine tr_tin C (k := 1) (tgt := 63) dX1_wordOf_1 q2 (by decide) (by decide) rfl (by decide) ?_
      refine tr_ldcS C (i := 1) (by decide) dX1_wordOf_63 ?_
      exact tr_retS C hr hlk dX1_wordOf_65
    · refine tr_ite (fun q3 => ?_) (fun q3 => ?_)
      · refine tr_tin C (k := 2) (tgt := 66) dX1_wordOf_1 q3 (by decide) (by decide) rfl (by decide) ?_
        refine tr_ldcS C (i := 2) (by decide) dX1_wordOf_66 ?_
        exact tr_retS C hr hlk dX1_wordOf_68
      · refine tr_ite (fun q4 => ?_) (fun q4 => ?_)
        · refine tr_tin C (k := 3) (tgt := 69) dX1_wordOf_1 q4 (by decide) (by decide) rfl (by decide) ?_
          refine tr_ldcS C (i := 3) (by decide) dX1_wordOf_69 ?_
          exact tr_retS C hr hlk dX1_wordOf_71
        · refine tr_ite (fun q5 => ?_) (fun q5 => ?_)
          · refine tr_tin C (k := 4) (tgt := 72) dX1_wordOf_1 q5 (by decide) (by decide) rfl (by decide) ?_
            refine tr_ldcS C (i := 4) (by decide) dX1_wordOf_72 ?_
            exact tr_retS C hr hlk dX1_wordOf_74
          · refine tr_ite (fun q6 => ?_) (fun q6 => ?_)
            · refine tr_tin C (k := 5) (tgt := 75) dX1_wordOf_1 q6 (by decide) (by decide) rfl (by decide) ?_
              refine tr_ldcS C (i := 5) (by decide) dX1_wordOf_75 ?_
              exact tr_retS C hr hlk dX1_wordOf_77
            · refine tr_ite (fun q7 => ?_) (fun q7 => ?_)
              · refine tr_tin C (k := 6) (tgt := 78) dX1_wordOf_1 q7 (by decide) (by decide) rfl (by decide) ?_
                refine tr_ldcS C (i := 6) (by decide) dX1_wordOf_78 ?_
                exact tr_retS C hr hlk dX1_wordOf_80
              · refine tr_ite (fun q8 => ?_) (fun q8 => ?_)
                · refine tr_tin C (k := 7) (tgt := 81) dX1_wordOf_1 q8 (by decide) (by decide) rfl (by decide) ?_
                  refine tr_ldcS C (i := 7) (by decide) dX1_wordOf_81 ?_
                  exact tr_retS C hr hlk dX1_wordOf_83
                · refine tr_ite (fun q9 => ?_) (fun q9 => ?_)
                  · refine tr_tin C (k := 8) (tgt := 84) dX1_wordOf_1 q9 (by decide) (by decide) rfl (by decide) ?_
                    refine tr_ldcS C (i := 8) (by decide) dX1_wordOf_84 ?_
                    exact tr_retS C hr hlk dX1_wordOf_86
                  · refine tr_ite (fun q10 => ?_) (fun q10 => ?_)
                    · refine tr_tin C (k := 9) (tgt := 87) dX1_wordOf_1 q10 (by decide) (by decide) rfl (by decide) ?_
                      refine tr_ldcS C (i := 9) (by decide) dX1_wordOf_87 ?_
                      exact tr_retS C hr hlk dX1_wordOf_89
                    · refine tr_ite (fun q11 => ?_) (fun q11 => ?_)
                      · refine tr_tin C (k := 10) (tgt := 90) dX1_wordOf_1 q11 (by decide) (by decide) rfl (by decide) ?_
                        refine tr_ldcS C (i := 10) (by decide) dX1_wordOf_90 ?_
                        exact tr_retS C hr hlk dX1_wordOf_92
                      · refine tr_tout C (tgt := 93) dX1_wordOf_1 (by have eq1 := neI (0) q1 (by decide); have eq2 := neI (1) q2 (by decide); have eq3 := neI (2) q3 (by decide); have eq4 := neI (3) q4 (by decide); have eq5 := neI (4) q5 (by decide); have eq6 := neI (5) q6 (by decide); have eq7 := neI (6) q7 (by decide); have eq8 := neI (7) q8 (by decide); have eq9 := neI (8) q9 (by decide); have eq10 := neI (9) q10 (by decide); have eq11 := neI (10) q11 (by decide); omega) (by decide) ?_
                        refine tr_ldcS C (i := 11) (by decide) dX1_wordOf_93 ?_
                        exact tr_retS C hr hlk dX1_wordOf_95
def fX1_isWord_L15 (b1 : Nat) (a2 : Int32) (a3 : Int32) (σ : Mem) (ih15 : Int32 → Option (Int32)) : Int32 → Option (Int32) := fun v => match v with
  | y4_15 =>
    if a3 ≤ y4_15 then (
      some 1
    ) else (
      gd (inB y4_15 160) (
        bn1 (fJ0_charAt_5068e b1 (y4_15 - a2) σ) fun r2 => (
          if (rd σ 4 y4_15) = r2 then (
            ih15 (y4_15 + 1)
          ) else (
            some 0
          )
        )
      )
    )
def fX1_isWord (b1 : Nat) (a2 : Int32) (a3 : Int32) (σ : Mem) : Option (Int32) :=
  bn1 (fJ0_length_8abf5 b1 σ) fun r1 => (
    if r1 = (a3 - a2) then (
      loopN (fX1_isWord_L15 b1 a2 a3 σ) 1000 a2
    ) else (
      some 0
    )
  )
set_option maxHeartbeats 4000000 in
set_option maxRecDepth 100000 in
theorem kX1_isWord (l : Launch) (g : GG) (cs : CS) (ad : Nat → Nat) (b1 : Nat) (a2 : Int32) (a3 : Int32) (hb1 : b1 < 13) (σ : Mem) : CtI l g cs ad (shC g) mX1_isWord (.code mX1_isWord cX1_isWord 5 (some .boolean)) { frames := 4, cells := 0, slots := 0, locals := 85 } [.ref (ad 3), .ref (cs.2.1 b1), .int a2, .int a3] σ (pur (fX1_isWord b1 a2 a3 σ) σ) := by
  refine ctIP_intro (own := "KinInTheHeap$Reader") (by decide +kernel) rfl [some (.ref (ad 3)), some (.ref (cs.2.1 b1)), some (.int a2), some (.int a3), none] (Nat.le_of_ble_eq_true rfl) rfl ?_
  intro p e s m args below meth c A C hr hlk
  refine tr_aload_n C (i := 1) dX1_isWord_0 rfl rfl ?_
  refine tr_cT C (av := []) (st := []) hb1 (kJ0_length_8abf5 l g cs ad b1 hb1 σ) mwJ0_length_8abf5 w465 ⟨rfl, rfl⟩ ⟨(Nat.le_of_ble_eq_true rfl), (Nat.le_of_ble_eq_true rfl)⟩ rfl rfl (Nat.le_of_ble_eq_true rfl) dX1_isWord_1 (fun r1 hr1 => ?_)
  refine tr_iload_n C (i := 3) dX1_isWord_4 rfl rfl ?_
  refine tr_iload_n C (i := 2) dX1_isWord_5 rfl rfl ?_
  refine tr_isub C dX1_isWord_6 ?_
  refine tr_icmp_eq C (tgt := 12) dX1_isWord_7 (by decide) (fun q6 => ?_) (fun q6 => ?_)
  · refine tr_iload_n C (i := 2) dX1_isWord_12 rfl rfl ?_
    refine tr_istore C (i := 4) (lv' := [some (.ref (ad 3)), some (.ref (cs.2.1 b1)), some (.int a2), some (.int a3), some (.int a2)]) dX1_isWord_13 (by decide) rfl ?_
    refine tr_loop (b := fX1_isWord_L15 b1 a2 a3 σ) (sg := fun v => σ) (lw := fun v => [some (.ref (ad 3)), some (.ref (cs.2.1 b1)), some (.int a2), some (.int a3), some (.int v)]) (sw := fun v => []) (fun ih15 IH15 v => ?_) 1000 a2
    obtain ⟨y4_15, rfl⟩ : ∃ z, z = v := ⟨v, rfl⟩
    refine tr_st (σ' := σ) (lv' := [some (.ref (ad 3)), some (.ref (cs.2.1 b1)), some (.int a2), some (.int a3), some (.int y4_15)]) (st' := []) rfl rfl rfl ?_
    refine tr_iload C (i := 4) dX1_isWord_15 rfl ?_
    refine tr_iload_n C (i := 3) dX1_isWord_17 rfl rfl ?_
    refine tr_icmp_ge C (tgt := 47) dX1_isWord_18 (by decide) (fun q5 => ?_) (fun q5 => ?_)
    · refine tr_iconst C (v := 1) dX1_isWord_47 (by decide) ?_
      exact tr_zretP C hr hlk rfl dX1_isWord_48
    · refine tr_aload_n C (i := 0) dX1_isWord_21 rfl rfl ?_
      refine tr_getR C (k := 1) (ci := 1) rfl rfl rfl inT1 rfl (by decide) w133 dX1_isWord_22 ?_
      refine tr_iload C (i := 4) dX1_isWord_25 rfl ?_
      refine tr_iald C (n := 160) rfl dX1_isWord_27 (fun h4 => ?_)
      refine tr_aload_n C (i := 1) dX1_isWord_28 rfl rfl ?_
      refine tr_iload C (i := 4) dX1_isWord_29 rfl ?_
      refine tr_iload_n C (i := 2) dX1_isWord_31 rfl rfl ?_
      refine tr_isub C dX1_isWord_32 ?_
      refine tr_cT C (av := [.int (y4_15 - a2)]) (st := [.int (rd σ 4 y4_15)]) hb1 (kJ0_charAt_5068e l g cs ad b1 (y4_15 - a2) hb1 σ) mwJ0_charAt_5068e w475 ⟨rfl, rfl⟩ ⟨(Nat.le_of_ble_eq_true rfl), (Nat.le_of_ble_eq_true rfl)⟩ rfl rfl (Nat.le_of_ble_eq_true rfl) dX1_isWord_33 (fun r2 hr2 => ?_)
      refine tr_icmp_eq C (tgt := 41) dX1_isWord_36 (by decide) (fun q3 => ?_) (fun q3 => ?_)
      · refine tr_iinc C (i := 4) (d := 1) (lv' := [some (.ref (ad 3)), some (.ref (cs.2.1 b1)), some (.int a2), some (.int a3), some (.int (y4_15 + 1))]) dX1_isWord_41 rfl (by decide) (by decide) rfl ?_
        refine tr_goto C (tgt := 15) dX1_isWord_44 (by decide) ?_
        exact IH15 (y4_15 + 1)
      · refine tr_iconst C (v := 0) dX1_isWord_39 (by decide) ?_
        exact tr_zretP C hr hlk rfl dX1_isWord_40
  · refine tr_iconst C (v := 0) dX1_isWord_10 (by decide) ?_
    exact tr_zretP C hr hlk rfl dX1_isWord_11
def fX1_wordToken_b21 (a1 : Int32) (a2 : Int32) (σ : Mem) (y3_21 : Int32) : Option (Int32) :=
  if 6 ≤ y3_21 then (
    some ((10000 + y3_21) - 6)
  ) else (
    some ((-3) - y3_21)
  )
def fX1_wordToken_L2 (a1 : Int32) (a2 : Int32) (σ : Mem) (ih2 : Int32 → Option (Int32)) : Int32 → Option (Int32) := fun v => match v with
  | y3_2 =>
    if 12 ≤ y3_2 then (
      some (-2)
    ) else (
      bn1 (fX1_wordOf y3_2 σ) fun r1 => gd (decide (r1 < 13)) (
        bn1 (fX1_isWord r1 a1 a2 σ) fun r3 => (
          if r3 = 0 then (
            ih2 (y3_2 + 1)
          ) else (
            fX1_wordToken_b21 a1 a2 σ y3_2
          )
        )
      )
    )
def fX1_wordToken (a1 : Int32) (a2 : Int32) (σ : Mem) : Option (Int32) :=
  loopN (fX1_wordToken_L2 a1 a2 σ) 1000 0
set_option maxHeartbeats 4000000 in
set_option maxRecDepth 100000 in
theorem kX1_wordToken (l : Launch) (g : GG) (cs : CS) (ad : Nat → Nat) (a1 : Int32) (a2 : Int32) (σ : Mem) : CtI l g cs ad (shC g) mX1_wordToken (.code mX1_wordToken cX1_wordToken 4 (some .int)) { frames := 5, cells := 0, slots := 0, locals := 109 } [.ref (ad 3), .int a1, .int a2] σ (pur (fX1_wordToken a1 a2 σ) σ) := by
  refine ctIP_intro (own := "KinInTheHeap$Reader") (by decide +kernel) rfl [some (.ref (ad 3)), some (.int a1), some (.int a2), none] (Nat.le_of_ble_eq_true rfl) rfl ?_
  intro p e s m args below meth c A C hr hlk
  refine tr_iconst C (v := 0) dX1_wordToken_0 (by decide) ?_
  refine tr_istore_n C (i := 3) (lv' := [some (.ref (ad 3)), some (.int a1), some (.int a2), some (.int 0)]) dX1_wordToken_1 rfl (by decide) rfl ?_
  refine tr_loop (b := fX1_wordToken_L2 a1 a2 σ) (sg := fun v => σ) (lw := fun v => [some (.ref (ad 3)), some (.int a1), some (.int a2), some (.int v)]) (sw := fun v => []) (fun ih2 IH2 v => ?_) 1000 0
  obtain ⟨y3_2, rfl⟩ : ∃ z, z = v := ⟨v, rfl⟩
  refine tr_st (σ' := σ) (lv' := [some (.ref (ad 3)), some (.int a1), some (.int a2), some (.int y3_2)]) (st' := []) rfl rfl rfl ?_
  refine tr_iload_n C (i := 3) dX1_wordToken_2 rfl rfl ?_
  refine tr_bipush C (v := 12) dX1_wordToken_3 (by decide) ?_
  refine tr_icmp_ge C (tgt := 49) dX1_wordToken_5 (by decide) (fun q6 => ?_) (fun q6 => ?_)
  · refine tr_bipush C (v := -2) dX1_wordToken_49 (by decide) ?_
    exact tr_iretP C hr hlk dX1_wordToken_51
  · refine tr_aload_n C (i := 0) dX1_wordToken_8 rfl rfl ?_
    refine tr_iload_n C (i := 3) dX1_wordToken_9 rfl rfl ?_
    refine tr_cSS C (av := [.int y3_2]) (st := [.ref (ad 3)]) (kX1_wordOf l g cs ad y3_2 σ) mwX1_wordOf w446 ⟨rfl, rfl⟩ ⟨(Nat.le_of_ble_eq_true rfl), (Nat.le_of_ble_eq_true rfl)⟩ rfl rfl (Nat.le_of_ble_eq_true rfl) dX1_wordToken_10 (fun r1 hr1 => tr_gd (fun g2 => ?_))
    refine tr_iload_n C (i := 1) dX1_wordToken_13 rfl rfl ?_
    refine tr_iload_n C (i := 2) dX1_wordToken_14 rfl rfl ?_
    refine tr_cVIP C (av := [.ref (cs.2.1 r1), .int a1, .int a2]) (st := []) (kX1_isWord l g cs ad r1 a1 a2 (of_decide_eq_true g2) σ) mwX1_isWord w461 rfl rfl ⟨rfl, rfl⟩ ⟨(Nat.le_of_ble_eq_true rfl), (Nat.le_of_ble_eq_true rfl)⟩ rfl rfl (Nat.le_of_ble_eq_true rfl) dX1_wordToken_15 (fun r3 hr3 => ?_)
    have B21 : ∀ (y3_21 : Int32), Tr p l e { frames := 5, cells := 0, slots := 0, locals := 109 } s m args below meth c g ad (shC g) A 4 (QP g ad (shC g) A below args s σ) (fX1_wordToken_b21 a1 a2 σ y3_21) σ 21 [none, none, none, some (.int y3_21)] [] := by
      intro y3_21
      refine tr_iload_n C (i := 3) dX1_wordToken_21 rfl rfl ?_
      refine tr_bipush C (v := 6) dX1_wordToken_22 (by decide) ?_
      refine tr_icmp_ge C (tgt := 34) dX1_wordToken_24 (by decide) (fun q4 => ?_) (fun q4 => ?_)
      · refine tr_sipush C (v := 10000) dX1_wordToken_34 (by decide) ?_
        refine tr_iload_n C (i := 3) dX1_wordToken_37 rfl rfl ?_
        refine tr_iadd C dX1_wordToken_38 ?_
        refine tr_bipush C (v := 6) dX1_wordToken_39 (by decide) ?_
        refine tr_isub C dX1_wordToken_41 ?_
        exact tr_iretP C hr hlk dX1_wordToken_42
      · refine tr_bipush C (v := -3) dX1_wordToken_27 (by decide) ?_
        refine tr_iload_n C (i := 3) dX1_wordToken_29 rfl rfl ?_
        refine tr_isub C dX1_wordToken_30 ?_
        refine tr_goto C (tgt := 42) dX1_wordToken_31 (by decide) ?_
        exact tr_iretP C hr hlk dX1_wordToken_42
    refine tr_if_eq C (tgt := 43) dX1_wordToken_18 (by decide) (fun q5 => ?_) (fun q5 => ?_)
    · refine tr_iinc C (i := 3) (d := 1) (lv' := [some (.ref (ad 3)), some (.int a1), some (.int a2), some (.int (y3_2 + 1))]) dX1_wordToken_43 rfl (by decide) (by decide) rfl ?_
      refine tr_goto C (tgt := 2) dX1_wordToken_46 (by decide) ?_
      exact IH2 (y3_2 + 1)
    · refine tr_mask [false, false, false, true] rfl ?_
      exact B21 y3_2
def fX1_numberToken_L15 (a1 : Int32) (a2 : Int32) (σ : Mem) (ih15 : Int32 × Int32 → Option (Int32)) : Int32 × Int32 → Option (Int32) := fun v => match v with
  | (y3_15, y4_15) =>
    if a2 ≤ y4_15 then (
      some y3_15
    ) else (
      gd (inB y4_15 160) (
        ih15 (((y3_15 * 10) + (rd σ 4 y4_15)) - 48, y4_15 + 1)
      )
    )
def fX1_numberToken (a1 : Int32) (a2 : Int32) (σ : Mem) : Option (Int32) :=
  if (a2 - a1) ≤ 4 then (
    loopN (fX1_numberToken_L15 a1 a2 σ) 1000 (0, a1)
  ) else (
    some (-2)
  )
set_option maxHeartbeats 4000000 in
set_option maxRecDepth 100000 in
theorem kX1_numberToken (l : Launch) (g : GG) (cs : CS) (ad : Nat → Nat) (a1 : Int32) (a2 : Int32) (σ : Mem) : CtI l g cs ad (shC g) mX1_numberToken (.code mX1_numberToken cX1_numberToken 5 (some .int)) { frames := 0, cells := 0, slots := 0, locals := 0 } [.ref (ad 3), .int a1, .int a2] σ (pur (fX1_numberToken a1 a2 σ) σ) := by
  refine ctIP_intro (own := "KinInTheHeap$Reader") (by decide +kernel) rfl [some (.ref (ad 3)), some (.int a1), some (.int a2), none, none] (Nat.le_of_ble_eq_true rfl) rfl ?_
  intro p e s m args below meth c A C hr hlk
  refine tr_iload_n C (i := 2) dX1_numberToken_0 rfl rfl ?_
  refine tr_iload_n C (i := 1) dX1_numberToken_1 rfl rfl ?_
  refine tr_isub C dX1_numberToken_2 ?_
  refine tr_iconst C (v := 4) dX1_numberToken_3 (by decide) ?_
  refine tr_icmp_le C (tgt := 10) dX1_numberToken_4 (by decide) (fun q3 => ?_) (fun q3 => ?_)
  · refine tr_iconst C (v := 0) dX1_numberToken_10 (by decide) ?_
    refine tr_istore_n C (i := 3) (lv' := [some (.ref (ad 3)), some (.int a1), some (.int a2), some (.int 0), none]) dX1_numberToken_11 rfl (by decide) rfl ?_
    refine tr_iload_n C (i := 1) dX1_numberToken_12 rfl rfl ?_
    refine tr_istore C (i := 4) (lv' := [some (.ref (ad 3)), some (.int a1), some (.int a2), some (.int 0), some (.int a1)]) dX1_numberToken_13 (by decide) rfl ?_
    refine tr_mask [true, false, true, true, true] rfl ?_
    refine tr_loop (b := fX1_numberToken_L15 a1 a2 σ) (sg := fun v => σ) (lw := fun v => [some (.ref (ad 3)), none, some (.int a2), some (.int v.1), some (.int v.2)]) (sw := fun v => []) (fun ih15 IH15 v => ?_) 1000 (0, a1)
    obtain ⟨y3_15, y4_15⟩ := v
    refine tr_st (σ' := σ) (lv' := [some (.ref (ad 3)), none, some (.int a2), some (.int y3_15), some (.int y4_15)]) (st' := []) rfl rfl rfl ?_
    refine tr_iload C (i := 4) dX1_numberToken_15 rfl ?_
    refine tr_iload_n C (i := 2) dX1_numberToken_17 rfl rfl ?_
    refine tr_icmp_ge C (tgt := 43) dX1_numberToken_18 (by decide) (fun q2 => ?_) (fun q2 => ?_)
    · refine tr_iload_n C (i := 3) dX1_numberToken_43 rfl rfl ?_
      exact tr_iretP C hr hlk dX1_numberToken_44
    · refine tr_iload_n C (i := 3) dX1_numberToken_21 rfl rfl ?_
      refine tr_bipush C (v := 10) dX1_numberToken_22 (by decide) ?_
      refine tr_imul C dX1_numberToken_24 ?_
      refine tr_aload_n C (i := 0) dX1_numberToken_25 rfl rfl ?_
      refine tr_getR C (k := 1) (ci := 1) rfl rfl rfl inT1 rfl (by decide) w133 dX1_numberToken_26 ?_
      refine tr_iload C (i := 4) dX1_numberToken_29 rfl ?_
      refine tr_iald C (n := 160) rfl dX1_numberToken_31 (fun h1 => ?_)
      refine tr_iadd C dX1_numberToken_32 ?_
      refine tr_bipush C (v := 48) dX1_numberToken_33 (by decide) ?_
      refine tr_isub C dX1_numberToken_35 ?_
      refine tr_istore_n C (i := 3) (lv' := [some (.ref (ad 3)), none, some (.int a2), some (.int (((y3_15 * 10) + (rd σ 4 y4_15)) - 48)), some (.int y4_15)]) dX1_numberToken_36 rfl (by decide) rfl ?_
      refine tr_iinc C (i := 4) (d := 1) (lv' := [some (.ref (ad 3)), none, some (.int a2), some (.int (((y3_15 * 10) + (rd σ 4 y4_15)) - 48)), some (.int (y4_15 + 1))]) dX1_numberToken_37 rfl (by decide) (by decide) rfl ?_
      refine tr_goto C (tgt := 15) dX1_numberToken_40 (by decide) ?_
      exact IH15 (((y3_15 * 10) + (rd σ 4 y4_15)) - 48, y4_15 + 1)
  · refine tr_bipush C (v := -2) dX1_numberToken_7 (by decide) ?_
    exact tr_iretP C hr hlk dX1_numberToken_9
def fX1_tokenOf (a1 : Int32) (a2 : Int32) (σ : Mem) : Option (Int32) :=
  gd (inB a1 160) (
    bn1 (fX1_isSmall (rd σ 4 a1) σ) fun r1 => (
      if r1 = 0 then (
        gd (inB a1 160) (
          bn1 (fX1_isDigit (rd σ 4 a1) σ) fun r2 => (
            if r2 = 0 then (
              gd (inB a1 160) (
                bn1 (fJ0_indexOf_0f7a4 12 (((rd σ 4 a1).toUInt32 % 65536).toInt32) σ) fun r3 => (
                  if 0 ≤ r3 then (
                    some ((-10) - r3)
                  ) else (
                    some (-2)
                  )
                )
              )
            ) else (
              bn1 (fX1_numberToken a1 a2 σ) fun r6 => (
                some r6
              )
            )
          )
        )
      ) else (
        bn1 (fX1_wordToken a1 a2 σ) fun r9 => (
          some r9
        )
      )
    )
  )
set_option maxHeartbeats 4000000 in
set_option maxRecDepth 100000 in
theorem kX1_tokenOf (l : Launch) (g : GG) (cs : CS) (ad : Nat → Nat) (a1 : Int32) (a2 : Int32) (σ : Mem) : CtI l g cs ad (shC g) mX1_tokenOf (.code mX1_tokenOf cX1_tokenOf 4 (some .int)) { frames := 6, cells := 0, slots := 0, locals := 132 } [.ref (ad 3), .int a1, .int a2] σ (pur (fX1_tokenOf a1 a2 σ) σ) := by
  refine ctIP_intro (own := "KinInTheHeap$Reader") (by decide +kernel) rfl [some (.ref (ad 3)), some (.int a1), some (.int a2), none] (Nat.le_of_ble_eq_true rfl) rfl ?_
  intro p e s m args below meth c A C hr hlk
  refine tr_aload_n C (i := 0) dX1_tokenOf_0 rfl rfl ?_
  refine tr_getR C (k := 1) (ci := 1) rfl rfl rfl inT1 rfl (by decide) w133 dX1_tokenOf_1 ?_
  refine tr_iload_n C (i := 1) dX1_tokenOf_4 rfl rfl ?_
  refine tr_iald C (n := 160) rfl dX1_tokenOf_5 (fun h11 => ?_)
  refine tr_cSIP C (av := [.int (rd σ 4 a1)]) (st := []) (kX1_isSmall l g cs ad (rd σ 4 a1) σ) mwX1_isSmall w431 ⟨rfl, rfl⟩ ⟨(Nat.le_of_ble_eq_true rfl), (Nat.le_of_ble_eq_true rfl)⟩ rfl rfl (Nat.le_of_ble_eq_true rfl) dX1_tokenOf_6 (fun r1 hr1 => ?_)
  refine tr_if_eq C (tgt := 19) dX1_tokenOf_9 (by decide) (fun q10 => ?_) (fun q10 => ?_)
  · refine tr_aload_n C (i := 0) dX1_tokenOf_19 rfl rfl ?_
    refine tr_getR C (k := 1) (ci := 1) rfl rfl rfl inT1 rfl (by decide) w133 dX1_tokenOf_20 ?_
    refine tr_iload_n C (i := 1) dX1_tokenOf_23 rfl rfl ?_
    refine tr_iald C (n := 160) rfl dX1_tokenOf_24 (fun h8 => ?_)
    refine tr_cSIP C (av := [.int (rd σ 4 a1)]) (st := []) (kX1_isDigit l g cs ad (rd σ 4 a1) σ) mwX1_isDigit w435 ⟨rfl, rfl⟩ ⟨(Nat.le_of_ble_eq_true rfl), (Nat.le_of_ble_eq_true rfl)⟩ rfl rfl (Nat.le_of_ble_eq_true rfl) dX1_tokenOf_25 (fun r2 hr2 => ?_)
    refine tr_if_eq C (tgt := 38) dX1_tokenOf_28 (by decide) (fun q7 => ?_) (fun q7 => ?_)
    · refine tr_ldcS C (i := 12) (by decide) dX1_tokenOf_38 ?_
      refine tr_aload_n C (i := 0) dX1_tokenOf_40 rfl rfl ?_
      refine tr_getR C (k := 1) (ci := 1) rfl rfl rfl inT1 rfl (by decide) w133 dX1_tokenOf_41 ?_
      refine tr_iload_n C (i := 1) dX1_tokenOf_44 rfl rfl ?_
      refine tr_iald C (n := 160) rfl dX1_tokenOf_45 (fun h5 => ?_)
      refine tr_i2c C dX1_tokenOf_46 ?_
      refine tr_cT C (av := [.int (((rd σ 4 a1).toUInt32 % 65536).toInt32)]) (st := []) (by decide : 12 < 13) (kJ0_indexOf_0f7a4 l g cs ad 12 (((rd σ 4 a1).toUInt32 % 65536).toInt32) (by decide : 12 < 13) σ) mwJ0_indexOf_0f7a4 w518 ⟨rfl, rfl⟩ ⟨(Nat.le_of_ble_eq_true rfl), (Nat.le_of_ble_eq_true rfl)⟩ rfl rfl (Nat.le_of_ble_eq_true rfl) dX1_tokenOf_47 (fun r3 hr3 => ?_)
      refine tr_istore_n C (i := 3) (lv' := [some (.ref (ad 3)), some (.int a1), some (.int a2), some (.int r3)]) dX1_tokenOf_50 rfl (by decide) rfl ?_
      refine tr_iload_n C (i := 3) dX1_tokenOf_51 rfl rfl ?_
      refine tr_if_ge C (tgt := 60) dX1_tokenOf_52 (by decide) (fun q4 => ?_) (fun q4 => ?_)
      · refine tr_bipush C (v := -10) dX1_tokenOf_60 (by decide) ?_
        refine tr_iload_n C (i := 3) dX1_tokenOf_62 rfl rfl ?_
        refine tr_isub C dX1_tokenOf_63 ?_
        exact tr_iretP C hr hlk dX1_tokenOf_64
      · refine tr_bipush C (v := -2) dX1_tokenOf_55 (by decide) ?_
        refine tr_goto C (tgt := 64) dX1_tokenOf_57 (by decide) ?_
        exact tr_iretP C hr hlk dX1_tokenOf_64
    · refine tr_aload_n C (i := 0) dX1_tokenOf_31 rfl rfl ?_
      refine tr_iload_n C (i := 1) dX1_tokenOf_32 rfl rfl ?_
      refine tr_iload_n C (i := 2) dX1_tokenOf_33 rfl rfl ?_
      refine tr_cVIP C (av := [.int a1, .int a2]) (st := []) (kX1_numberToken l g cs ad a1 a2 σ) mwX1_numberToken w513 rfl rfl ⟨rfl, rfl⟩ ⟨(Nat.le_of_ble_eq_true rfl), (Nat.le_of_ble_eq_true rfl)⟩ rfl rfl (Nat.le_of_ble_eq_true rfl) dX1_tokenOf_34 (fun r6 hr6 => ?_)
      exact tr_iretP C hr hlk dX1_tokenOf_37
  · refine tr_aload_n C (i := 0) dX1_tokenOf_12 rfl rfl ?_
    refine tr_iload_n C (i := 1) dX1_tokenOf_13 rfl rfl ?_
    refine tr_iload_n C (i := 2) dX1_tokenOf_14 rfl rfl ?_
    refine tr_cVIP C (av := [.int a1, .int a2]) (st := []) (kX1_wordToken l g cs ad a1 a2 σ) mwX1_wordToken w442 rfl rfl ⟨rfl, rfl⟩ ⟨(Nat.le_of_ble_eq_true rfl), (Nat.le_of_ble_eq_true rfl)⟩ rfl rfl (Nat.le_of_ble_eq_true rfl) dX1_tokenOf_15 (fun r9 hr9 => ?_)
    exact tr_iretP C hr hlk dX1_tokenOf_18
def fX1_addToken (a1 : Int32) (a2 : Int32) (σ : Mem) : Option (Mem) :=
  if 160 < (σ.1 3 5) then (
    some σ
  ) else (
    gd (inB (σ.1 3 5) 161) (stp (wr σ 5 (σ.1 3 5) a1) fun σw1 => (
      gd (inB (σw1.1 3 5) 161) (stp (wr σw1 6 (σw1.1 3 5) a2) fun σw2 => (
        stp (putI σw2 3 5 ((σw2.1 3 5) + 1)) fun σw3 => (
          some σw3
        )
      ))
    ))
  )
set_option maxHeartbeats 4000000 in
set_option maxRecDepth 100000 in
theorem kX1_addToken (l : Launch) (g : GG) (cs : CS) (ad : Nat → Nat) (a1 : Int32) (a2 : Int32) (σ : Mem) : CtV l g cs ad (shC g) mX1_addToken (.code mX1_addToken cX1_addToken 3 none) { frames := 0, cells := 0, slots := 0, locals := 0 } [.ref (ad 3), .int a1, .int a2] σ (fX1_addToken a1 a2 σ) := by
  refine ctV_intro (own := "KinInTheHeap$Reader") (by decide +kernel) rfl [some (.ref (ad 3)), some (.int a1), some (.int a2)] (Nat.le_of_ble_eq_true rfl) rfl ?_
  intro p e s m args below meth c A C hr hlk
  refine tr_aload_n C (i := 0) dX1_addToken_0 rfl rfl ?_
  refine tr_getI C (k := 5) (ci := 1) rfl rfl rfl inT1 rfl (by decide) w137 dX1_addToken_1 ?_
  refine tr_sipush C (v := 160) dX1_addToken_4 (by decide) ?_
  refine tr_icmp_gt C (tgt := 40) dX1_addToken_7 (by decide) (fun q6 => ?_) (fun q6 => ?_)
  · exact tr_vret C hr hlk dX1_addToken_40
  · refine tr_aload_n C (i := 0) dX1_addToken_10 rfl rfl ?_
    refine tr_getR C (k := 2) (ci := 1) rfl rfl rfl inT1 rfl (by decide) w134 dX1_addToken_11 ?_
    refine tr_aload_n C (i := 0) dX1_addToken_14 rfl rfl ?_
    refine tr_getI C (k := 5) (ci := 1) rfl rfl rfl inT1 rfl (by decide) w137 dX1_addToken_15 ?_
    refine tr_iload_n C (i := 1) dX1_addToken_18 rfl rfl ?_
    refine tr_iast C (n := 161) (σ' := wr σ 5 (σ.1 3 5) a1) rfl dX1_addToken_19 rfl (fun h5 => ?_)
    refine tr_stp (fun σw1 eσw1 => ?_)
    refine tr_aload_n C (i := 0) dX1_addToken_20 rfl rfl ?_
    refine tr_getR C (k := 3) (ci := 1) rfl rfl rfl inT1 rfl (by decide) w135 dX1_addToken_21 ?_
    refine tr_aload_n C (i := 0) dX1_addToken_24 rfl rfl ?_
    refine tr_getI C (k := 5) (ci := 1) rfl rfl rfl inT1 rfl (by decide) w137 dX1_addToken_25 ?_
    refine tr_iload_n C (i := 2) dX1_addToken_28 rfl rfl ?_
    refine tr_iast C (n := 161) (σ' := wr σw1 6 (σw1.1 3 5) a2) rfl dX1_addToken_29 rfl (fun h4 => ?_)
    refine tr_stp (fun σw2 eσw2 => ?_)
    refine tr_aload_n C (i := 0) dX1_addToken_30 rfl rfl ?_
    refine tr_dup C dX1_addToken_31 rfl ?_
    refine tr_getI C (k := 5) (ci := 1) rfl rfl rfl inT1 rfl (by decide) w137 dX1_addToken_32 ?_
    refine tr_iconst C (v := 1) dX1_addToken_35 (by decide) ?_
    refine tr_iadd C dX1_addToken_36 ?_
    refine tr_putI C (k := 5) (ci := 1) (σ' := putI σw2 3 5 ((σw2.1 3 5) + 1)) rfl rfl rfl inT1 rfl (by decide) tyX1 tyX1_ok nmX1 rfl rfl w137 dX1_addToken_37 rfl ?_
    refine tr_stp (fun σw3 eσw3 => ?_)
    exact tr_vret C hr hlk dX1_addToken_40
def fX1_findTokens_b74 (σ74 : Mem) : Option (Mem) :=
  bn1 (fX1_addToken (-1) (σ74.1 3 0) σ74) fun σ2 => (
    some σ2
  )
def fX1_findTokens_L7 (ih7 : Mem × Int32 → Option (Mem)) : Mem × Int32 → Option (Mem) := fun v => match v with
  | (σ7, y1_7) =>
    if (σ7.1 3 0) ≤ y1_7 then (
      fX1_findTokens_b74 σ7
    ) else (
      gd (inB y1_7 160) (
        if (rd σ7 4 y1_7) = 32 then (
          ih7 (σ7, y1_7 + 1)
        ) else (
          gd (inB y1_7 160) (
            if (rd σ7 4 y1_7) = 10 then (
              ih7 (σ7, y1_7 + 1)
            ) else (
              bn1 (fX1_endOfToken y1_7 σ7) fun r3 => (
                bn1 (fX1_tokenOf y1_7 r3 σ7) fun r4 => (
                  bn1 (fX1_addToken r4 y1_7 σ7) fun σ5 => (
                    if r4 = (-2) then (
                      some σ5
                    ) else (
                      ih7 (σ5, r3)
                    )
                  )
                )
              )
            )
          )
        )
      )
    )
def fX1_findTokens (σ : Mem) : Option (Mem) :=
  stp (putI σ 3 5 0) fun σw1 => (
    loopN (fX1_findTokens_L7) 1000 (σw1, 0)
  )
set_option maxHeartbeats 4000000 in
set_option maxRecDepth 100000 in
theorem kX1_findTokens (l : Launch) (g : GG) (cs : CS) (ad : Nat → Nat) (σ : Mem) : CtV l g cs ad (shC g) mX1_findTokens (.code mX1_findTokens cX1_findTokens 4 none) { frames := 7, cells := 0, slots := 0, locals := 155 } [.ref (ad 3)] σ (fX1_findTokens σ) := by
  refine ctV_intro (own := "KinInTheHeap$Reader") (by decide +kernel) rfl [some (.ref (ad 3)), none, none, none] (Nat.le_of_ble_eq_true rfl) rfl ?_
  intro p e s m args below meth c A C hr hlk
  refine tr_aload_n C (i := 0) dX1_findTokens_0 rfl rfl ?_
  refine tr_iconst C (v := 0) dX1_findTokens_1 (by decide) ?_
  refine tr_putI C (k := 5) (ci := 1) (σ' := putI σ 3 5 0) rfl rfl rfl inT1 rfl (by decide) tyX1 tyX1_ok nmX1 rfl rfl w137 dX1_findTokens_2 rfl ?_
  refine tr_stp (fun σw1 eσw1 => ?_)
  refine tr_iconst C (v := 0) dX1_findTokens_5 (by decide) ?_
  refine tr_istore_n C (i := 1) (lv' := [some (.ref (ad 3)), some (.int 0), none, none]) dX1_findTokens_6 rfl (by decide) rfl ?_
  refine tr_loop (b := fX1_findTokens_L7) (sg := fun v => v.1) (lw := fun v => [some (.ref (ad 3)), some (.int v.2), none, none]) (sw := fun v => []) (fun ih7 IH7 v => ?_) 1000 (σw1, 0)
  obtain ⟨σ7, y1_7⟩ := v
  refine tr_st (σ' := σ7) (lv' := [some (.ref (ad 3)), some (.int y1_7), none, none]) (st' := []) rfl rfl rfl ?_
  refine tr_iload_n C (i := 1) dX1_findTokens_7 rfl rfl ?_
  refine tr_aload_n C (i := 0) dX1_findTokens_8 rfl rfl ?_
  refine tr_getI C (k := 0) (ci := 1) rfl rfl rfl inT1 rfl (by decide) w131 dX1_findTokens_9 ?_
  have B74 : ∀ (σ74 : Mem), Tr p l e { frames := 7, cells := 0, slots := 0, locals := 155 } s m args below meth c g ad (shC g) A 4 (QV g ad (shC g) A below args s) (fX1_findTokens_b74 σ74) σ74 74 [some (.ref (ad 3)), none, none, none] [] := by
    intro σ74
    refine tr_aload_n C (i := 0) dX1_findTokens_74 rfl rfl ?_
    refine tr_iconst C (v := -1) dX1_findTokens_75 (by decide) ?_
    refine tr_aload_n C (i := 0) dX1_findTokens_76 rfl rfl ?_
    refine tr_getI C (k := 0) (ci := 1) rfl rfl rfl inT1 rfl (by decide) w131 dX1_findTokens_77 ?_
    refine tr_cVV C (av := [.int (-1), .int (σ74.1 3 0)]) (st := []) (kX1_addToken l g cs ad (-1) (σ74.1 3 0) σ74) mwX1_addToken w573 rfl rfl ⟨rfl, rfl⟩ ⟨(Nat.le_of_ble_eq_true rfl), (Nat.le_of_ble_eq_true rfl)⟩ rfl rfl (Nat.le_of_ble_eq_true rfl) dX1_findTokens_80 (fun σ2 hr2 => ?_)
    exact tr_vret C hr hlk dX1_findTokens_83
  refine tr_icmp_ge C (tgt := 74) dX1_findTokens_12 (by decide) (fun q11 => ?_) (fun q11 => ?_)
  · refine tr_mask [true, false, false, false] rfl ?_
    exact B74 σ7
  · refine tr_aload_n C (i := 0) dX1_findTokens_15 rfl rfl ?_
    refine tr_getR C (k := 1) (ci := 1) rfl rfl rfl inT1 rfl (by decide) w133 dX1_findTokens_16 ?_
    refine tr_iload_n C (i := 1) dX1_findTokens_19 rfl rfl ?_
    refine tr_iald C (n := 160) rfl dX1_findTokens_20 (fun h10 => ?_)
    refine tr_bipush C (v := 32) dX1_findTokens_21 (by decide) ?_
    refine tr_icmp_eq C (tgt := 37) dX1_findTokens_23 (by decide) (fun q9 => ?_) (fun q9 => ?_)
    · refine tr_iinc C (i := 1) (d := 1) (lv' := [some (.ref (ad 3)), some (.int (y1_7 + 1)), none, none]) dX1_findTokens_37 rfl (by decide) (by decide) rfl ?_
      refine tr_goto C (tgt := 7) dX1_findTokens_40 (by decide) ?_
      exact IH7 (σ7, y1_7 + 1)
    · refine tr_aload_n C (i := 0) dX1_findTokens_26 rfl rfl ?_
      refine tr_getR C (k := 1) (ci := 1) rfl rfl rfl inT1 rfl (by decide) w133 dX1_findTokens_27 ?_
      refine tr_iload_n C (i := 1) dX1_findTokens_30 rfl rfl ?_
      refine tr_iald C (n := 160) rfl dX1_findTokens_31 (fun h8 => ?_)
      refine tr_bipush C (v := 10) dX1_findTokens_32 (by decide) ?_
      refine tr_icmp_ne C (tgt := 43) dX1_findTokens_34 (by decide) (fun q7 => ?_) (fun q7 => ?_)
      · refine tr_iinc C (i := 1) (d := 1) (lv' := [some (.ref (ad 3)), some (.int (y1_7 + 1)), none, none]) dX1_findTokens_37 rfl (by decide) (by decide) rfl ?_
        refine tr_goto C (tgt := 7) dX1_findTokens_40 (by decide) ?_
        exact IH7 (σ7, y1_7 + 1)
      · refine tr_aload_n C (i := 0) dX1_findTokens_43 rfl rfl ?_
        refine tr_iload_n C (i := 1) dX1_findTokens_44 rfl rfl ?_
        refine tr_cVIP C (av := [.int y1_7]) (st := []) (kX1_endOfToken l g cs ad y1_7 σ7) mwX1_endOfToken w427 rfl rfl ⟨rfl, rfl⟩ ⟨(Nat.le_of_ble_eq_true rfl), (Nat.le_of_ble_eq_true rfl)⟩ rfl rfl (Nat.le_of_ble_eq_true rfl) dX1_findTokens_45 (fun r3 hr3 => ?_)
        refine tr_istore_n C (i := 2) (lv' := [some (.ref (ad 3)), some (.int y1_7), some (.int r3), none]) dX1_findTokens_48 rfl (by decide) rfl ?_
        refine tr_aload_n C (i := 0) dX1_findTokens_49 rfl rfl ?_
        refine tr_iload_n C (i := 1) dX1_findTokens_50 rfl rfl ?_
        refine tr_iload_n C (i := 2) dX1_findTokens_51 rfl rfl ?_
        refine tr_cVIP C (av := [.int y1_7, .int r3]) (st := []) (kX1_tokenOf l g cs ad y1_7 r3 σ7) mwX1_tokenOf w438 rfl rfl ⟨rfl, rfl⟩ ⟨(Nat.le_of_ble_eq_true rfl), (Nat.le_of_ble_eq_true rfl)⟩ rfl rfl (Nat.le_of_ble_eq_true rfl) dX1_findTokens_52 (fun r4 hr4 => ?_)
        refine tr_istore_n C (i := 3) (lv' := [some (.ref (ad 3)), some (.int y1_7), some (.int r3), some (.int r4)]) dX1_findTokens_55 rfl (by decide) rfl ?_
        refine tr_aload_n C (i := 0) dX1_findTokens_56 rfl rfl ?_
        refine tr_iload_n C (i := 3) dX1_findTokens_57 rfl rfl ?_
        refine tr_iload_n C (i := 1) dX1_findTokens_58 rfl rfl ?_
        refine tr_cVV C (av := [.int r4, .int y1_7]) (st := []) (kX1_addToken l g cs ad r4 y1_7 σ7) mwX1_addToken w573 rfl rfl ⟨rfl, rfl⟩ ⟨(Nat.le_of_ble_eq_true rfl), (Nat.le_of_ble_eq_true rfl)⟩ rfl rfl (Nat.le_of_ble_eq_true rfl) dX1_findTokens_59 (fun σ5 hr5 => ?_)
        refine tr_iload_n C (i := 3) dX1_findTokens_62 rfl rfl ?_
        refine tr_bipush C (v := -2) dX1_findTokens_63 (by decide) ?_
        refine tr_icmp_ne C (tgt := 69) dX1_findTokens_65 (by decide) (fun q6 => ?_) (fun q6 => ?_)
        · exact tr_vret C hr hlk dX1_findTokens_68
        · refine tr_iload_n C (i := 2) dX1_findTokens_69 rfl rfl ?_
          refine tr_istore_n C (i := 1) (lv' := [some (.ref (ad 3)), some (.int r3), some (.int r3), some (.int r4)]) dX1_findTokens_70 rfl (by decide) rfl ?_
          refine tr_goto C (tgt := 7) dX1_findTokens_71 (by decide) ?_
          refine tr_mask [true, true, false, false] rfl ?_
          exact IH7 (σ5, r3)
def fX3_clear (b : Nat) (σ : Mem) : Option (Mem) :=
  stp (putI σ b 3 0) fun σw1 => (
    stp (putI σw1 b 4 0) fun σw2 => (
      some σw2
    )
  )
set_option maxHeartbeats 4000000 in
set_option maxRecDepth 100000 in
theorem kX3_clear (l : Launch) (g : GG) (cs : CS) (ad : Nat → Nat) (b : Nat) (hb : isTx b) (σ : Mem) : CtV l g cs ad (shC g) mX3_clear (.code mX3_clear cX3_clear 1 none) { frames := 0, cells := 0, slots := 0, locals := 0 } [.ref (ad b)] σ (fX3_clear b σ) := by
  refine ctV_intro (own := "KinInTheHeap$Text") (by decide +kernel) rfl [some (.ref (ad b))] (Nat.le_of_ble_eq_true rfl) rfl ?_
  intro p e s m args below meth c A C hr hlk
  refine tr_aload_n C (i := 0) dX3_clear_0 rfl rfl ?_
  refine tr_iconst C (v := 0) dX3_clear_1 (by decide) ?_
  refine tr_putI C (k := 3) (ci := 3) (σ' := putI σ b 3 0) (tx_0 hb) rfl rfl inT3 rfl (by decide) tyX3 tyX3_ok nmX3 rfl rfl w169 dX3_clear_2 rfl ?_
  refine tr_stp (fun σw1 eσw1 => ?_)
  refine tr_aload_n C (i := 0) dX3_clear_5 rfl rfl ?_
  refine tr_iconst C (v := 0) dX3_clear_6 (by decide) ?_
  refine tr_putI C (k := 4) (ci := 3) (σ' := putI σw1 b 4 0) (tx_0 hb) rfl rfl inT3 rfl (by decide) tyX3 tyX3_ok nmX3 rfl rfl w170 dX3_clear_7 rfl ?_
  refine tr_stp (fun σw2 eσw2 => ?_)
  exact tr_vret C hr hlk dX3_clear_10
def fX1_isToken (a1 : Int32) (σ : Mem) : Option (Int32) :=
  if (σ.1 3 5) ≤ (σ.1 3 6) then (
    some 0
  ) else (
    gd (inB (σ.1 3 6) 161) (
      if (rd σ 5 (σ.1 3 6)) = a1 then (
        some 1
      ) else (
        some 0
      )
    )
  )
set_option maxHeartbeats 4000000 in
set_option maxRecDepth 100000 in
theorem kX1_isToken (l : Launch) (g : GG) (cs : CS) (ad : Nat → Nat) (a1 : Int32) (σ : Mem) : CtI l g cs ad (shC g) mX1_isToken (.code mX1_isToken cX1_isToken 2 (some .boolean)) { frames := 0, cells := 0, slots := 0, locals := 0 } [.ref (ad 3), .int a1] σ (pur (fX1_isToken a1 σ) σ) := by
  refine ctIP_intro (own := "KinInTheHeap$Reader") (by decide +kernel) rfl [some (.ref (ad 3)), some (.int a1)] (Nat.le_of_ble_eq_true rfl) rfl ?_
  intro p e s m args below meth c A C hr hlk
  refine tr_aload_n C (i := 0) dX1_isToken_0 rfl rfl ?_
  refine tr_getI C (k := 6) (ci := 1) rfl rfl rfl inT1 rfl (by decide) w138 dX1_isToken_1 ?_
  refine tr_aload_n C (i := 0) dX1_isToken_4 rfl rfl ?_
  refine tr_getI C (k := 5) (ci := 1) rfl rfl rfl inT1 rfl (by decide) w137 dX1_isToken_5 ?_
  refine tr_icmp_ge C (tgt := 28) dX1_isToken_8 (by decide) (fun q3 => ?_) (fun q3 => ?_)
  · refine tr_iconst C (v := 0) dX1_isToken_28 (by decide) ?_
    exact tr_zretP C hr hlk rfl dX1_isToken_29
  · refine tr_aload_n C (i := 0) dX1_isToken_11 rfl rfl ?_
    refine tr_getR C (k := 2) (ci := 1) rfl rfl rfl inT1 rfl (by decide) w134 dX1_isToken_12 ?_
    refine tr_aload_n C (i := 0) dX1_isToken_15 rfl rfl ?_
    refine tr_getI C (k := 6) (ci := 1) rfl rfl rfl inT1 rfl (by decide) w138 dX1_isToken_16 ?_
    refine tr_iald C (n := 161) rfl dX1_isToken_19 (fun h2 => ?_)
    refine tr_iload_n C (i := 1) dX1_isToken_20 rfl rfl ?_
    refine tr_icmp_ne C (tgt := 28) dX1_isToken_21 (by decide) (fun q1 => ?_) (fun q1 => ?_)
    · refine tr_iconst C (v := 1) dX1_isToken_24 (by decide) ?_
      refine tr_goto C (tgt := 29) dX1_isToken_25 (by decide) ?_
      exact tr_zretP C hr hlk rfl dX1_isToken_29
    · refine tr_iconst C (v := 0) dX1_isToken_28 (by decide) ?_
      exact tr_zretP C hr hlk rfl dX1_isToken_29
def fX3_add (b : Nat) (a1 : Int32) (σ : Mem) : Option (Mem) :=
  if 160 ≤ (σ.1 b 3) then (
    some σ
  ) else (
    gd (inB (σ.1 b 3) 160) (stp (wr σ (b + 1) (σ.1 b 3) a1) fun σw1 => (
      stp (putI σw1 b 3 ((σw1.1 b 3) + 1)) fun σw2 => (
        some σw2
      )
    ))
  )
set_option maxHeartbeats 4000000 in
set_option maxRecDepth 100000 in
theorem kX3_add (l : Launch) (g : GG) (cs : CS) (ad : Nat → Nat) (b : Nat) (a1 : Int32) (hb : isTx b) (σ : Mem) : CtV l g cs ad (shC g) mX3_add (.code mX3_add cX3_add 2 none) { frames := 0, cells := 0, slots := 0, locals := 0 } [.ref (ad b), .int a1] σ (fX3_add b a1 σ) := by
  refine ctV_intro (own := "KinInTheHeap$Text") (by decide +kernel) rfl [some (.ref (ad b)), some (.int a1)] (Nat.le_of_ble_eq_true rfl) rfl ?_
  intro p e s m args below meth c A C hr hlk
  refine tr_aload_n C (i := 0) dX3_add_0 rfl rfl ?_
  refine tr_getI C (k := 3) (ci := 3) (tx_0 hb) rfl rfl inT3 rfl (by decide) w169 dX3_add_1 ?_
  refine tr_sipush C (v := 160) dX3_add_4 (by decide) ?_
  refine tr_icmp_ge C (tgt := 30) dX3_add_7 (by decide) (fun q4 => ?_) (fun q4 => ?_)
  · exact tr_vret C hr hlk dX3_add_30
  · refine tr_aload_n C (i := 0) dX3_add_10 rfl rfl ?_
    refine tr_getR C (k := 0) (ci := 3) (tx_0 hb) rfl rfl inT3 rfl (by decide) w166 dX3_add_11 ?_
    refine tr_aload_n C (i := 0) dX3_add_14 rfl rfl ?_
    refine tr_getI C (k := 3) (ci := 3) (tx_0 hb) rfl rfl inT3 rfl (by decide) w169 dX3_add_15 ?_
    refine tr_iload_n C (i := 1) dX3_add_18 rfl rfl ?_
    refine tr_iast C (n := 160) (σ' := wr σ (b + 1) (σ.1 b 3) a1) (tx_1 hb) dX3_add_19 rfl (fun h3 => ?_)
    refine tr_stp (fun σw1 eσw1 => ?_)
    refine tr_aload_n C (i := 0) dX3_add_20 rfl rfl ?_
    refine tr_dup C dX3_add_21 rfl ?_
    refine tr_getI C (k := 3) (ci := 3) (tx_0 hb) rfl rfl inT3 rfl (by decide) w169 dX3_add_22 ?_
    refine tr_iconst C (v := 1) dX3_add_25 (by decide) ?_
    refine tr_iadd C dX3_add_26 ?_
    refine tr_putI C (k := 3) (ci := 3) (σ' := putI σw1 b 3 ((σw1.1 b 3) + 1)) (tx_0 hb) rfl rfl inT3 rfl (by decide) tyX3 tyX3_ok nmX3 rfl rfl w169 dX3_add_27 rfl ?_
    refine tr_stp (fun σw2 eσw2 => ?_)
    exact tr_vret C hr hlk dX3_add_30
def fX1_rank (a1 : Int32) (σ : Mem) : Option (Int32) :=
  if a1 = (-18) then (
    some 7
  ) else (
    if a1 = (-17) then (
      some 4
    ) else (
      if a1 = (-16) then (
        some 4
      ) else (
        if a1 = (-15) then (
          some 6
        ) else (
          if a1 = (-14) then (
            some 5
          ) else (
            if a1 = (-13) then (
              some 5
            ) else (
              if a1 = (-12) then (
                some (-1)
              ) else (
                if a1 = (-11) then (
                  some (-1)
                ) else (
                  if a1 = (-10) then (
                    some 0
                  ) else (
                    if a1 = (-9) then (
                      some (-1)
                    ) else (
                      if a1 = (-8) then (
                        some 3
                      ) else (
                        if a1 = (-7) then (
                          some 2
                        ) else (
                          if a1 = (-6) then (
                            some 1
                          ) else (
                            some (-1)
                          )
                        )
                      )
                    )
                  )
                )
              )
            )
          )
        )
      )
    )
  )
set_option maxHeartbeats 4000000 in
set_option maxRecDepth 100000 in
theorem kX1_rank (l : Launch) (g : GG) (cs : CS) (ad : Nat → Nat) (a1 : Int32) (σ : Mem) : CtI l g cs ad (shC g) mX1_rank (.code mX1_rank cX1_rank 1 (some .int)) { frames := 0, cells := 0, slots := 0, locals := 0 } [.int a1] σ (pur (fX1_rank a1 σ) σ) := by
  refine ctIP_intro (own := "KinInTheHeap$Reader") (by decide +kernel) rfl [some (.int a1)] (Nat.le_of_ble_eq_true rfl) rfl ?_
  intro p e s m args below meth c A C hr hlk
  refine tr_iload_n C (i := 0) dX1_rank_0 rfl rfl ?_
  refine tr_ite (fun q1 => ?_) (fun q1 => ?_)
  · refine tr_tin C (k := (-18)) (tgt := 83) dX1_rank_1 q1 (by decide) (by decide) rfl (by decide) ?_
    refine tr_bipush C (v := 7) dX1_rank_83 (by decide) ?_
    exact tr_iretP C hr hlk dX1_rank_85
  · refine tr_ite (fun q2 => ?_) (fun q2 => ?_)
    · refine tr_tin C (k := (-17)) (tgt := 76) dX1_rank_1 q2 (by decide) (by decide) rfl (by decide) ?_
      refine tr_iconst C (v := 4) dX1_rank_76 (by decide) ?_
      exact tr_iretP C hr hlk dX1_rank_77
    · refine tr_ite (fun q3 => ?_) (fun q3 => ?_)
      · refine tr_tin C (k := (-16)) (tgt := 76) dX1_rank_1 q3 (by decide) (by decide) rfl (by decide) ?_
        refine tr_iconst C (v := 4) dX1_rank_76 (by decide) ?_
        exact tr_iretP C hr hlk dX1_rank_77
      · refine tr_ite (fun q4 => ?_) (fun q4 => ?_)
        · refine tr_tin C (k := (-15)) (tgt := 80) dX1_rank_1 q4 (by decide) (by decide) rfl (by decide) ?_
          refine tr_bipush C (v := 6) dX1_rank_80 (by decide) ?_
          exact tr_iretP C hr hlk dX1_rank_82
        · refine tr_ite (fun q5 => ?_) (fun q5 => ?_)
          · refine tr_tin C (k := (-14)) (tgt := 78) dX1_rank_1 q5 (by decide) (by decide) rfl (by decide) ?_
            refine tr_iconst C (v := 5) dX1_rank_78 (by decide) ?_
            exact tr_iretP C hr hlk dX1_rank_79
          · refine tr_ite (fun q6 => ?_) (fun q6 => ?_)
            · refine tr_tin C (k := (-13)) (tgt := 78) dX1_rank_1 q6 (by decide) (by decide) rfl (by decide) ?_
              refine tr_iconst C (v := 5) dX1_rank_78 (by decide) ?_
              exact tr_iretP C hr hlk dX1_rank_79
            · refine tr_ite (fun q7 => ?_) (fun q7 => ?_)
              · refine tr_tin C (k := (-12)) (tgt := 86) dX1_rank_1 q7 (by decide) (by decide) rfl (by decide) ?_
                refine tr_iconst C (v := -1) dX1_rank_86 (by decide) ?_
                exact tr_iretP C hr hlk dX1_rank_87
              · refine tr_ite (fun q8 => ?_) (fun q8 => ?_)
                · refine tr_tin C (k := (-11)) (tgt := 86) dX1_rank_1 q8 (by decide) (by decide) rfl (by decide) ?_
                  refine tr_iconst C (v := -1) dX1_rank_86 (by decide) ?_
                  exact tr_iretP C hr hlk dX1_rank_87
                · refine tr_ite (fun q9 => ?_) (fun q9 => ?_)
                  · refine tr_tin C (k := (-10)) (tgt := 68) dX1_rank_1 q9 (by decide) (by decide) rfl (by decide) ?_
                    refine tr_iconst C (v := 0) dX1_rank_68 (by decide) ?_
                    exact tr_iretP C hr hlk dX1_rank_69
                  · refine tr_ite (fun q10 => ?_) (fun q10 => ?_)
                    · refine tr_tin C (k := (-9)) (tgt := 86) dX1_rank_1 q10 (by decide) (by decide) rfl (by decide) ?_
                      refine tr_iconst C (v := -1) dX1_rank_86 (by decide) ?_
                      exact tr_iretP C hr hlk dX1_rank_87
                    · refine tr_ite (fun q11 => ?_) (fun q11 => ?_)
                      · refine tr_tin C (k := (-8)) (tgt := 74) dX1_rank_1 q11 (by decide) (by decide) rfl (by decide) ?_
                        refine tr_iconst C (v := 3) dX1_rank_74 (by decide) ?_
                        exact tr_iretP C hr hlk dX1_rank_75
                      · refine tr_ite (fun q12 => ?_) (fun q12 => ?_)
                        · refine tr_tin C (k := (-7)) (tgt := 72) dX1_rank_1 q12 (by decide) (by decide) rfl (by decide) ?_
                          refine tr_iconst C (v := 2) dX1_rank_72 (by decide) ?_
                          exact tr_iretP C hr hlk dX1_rank_73
                        · refine tr_ite (fun q13 => ?_) (fun q13 => ?_)
                          · refine tr_tin C (k := (-6)) (tgt := 70) dX1_rank_1 q13 (by decide) (by decide) rfl (by decide) ?_
                            refine tr_iconst C (v := 1) dX1_rank_70 (by decide) ?_
                            exact tr_iretP C hr hlk dX1_rank_71
                          · refine tr_tout C (tgt := 86) dX1_rank_1 (by have eq1 := neI (-18) q1 (by decide); have eq2 := neI (-17) q2 (by decide); have eq3 := neI (-16) q3 (by decide); have eq4 := neI (-15) q4 (by decide); have eq5 := neI (-14) q5 (by decide); have eq6 := neI (-13) q6 (by decide); have eq7 := neI (-12) q7 (by decide); have eq8 := neI (-11) q8 (by decide); have eq9 := neI (-10) q9 (by decide); have eq10 := neI (-9) q10 (by decide); have eq11 := neI (-8) q11 (by decide); have eq12 := neI (-7) q12 (by decide); have eq13 := neI (-6) q13 (by decide); omega) (by decide) ?_
                            refine tr_iconst C (v := -1) dX1_rank_86 (by decide) ?_
                            exact tr_iretP C hr hlk dX1_rank_87
def fX1_lastRank (σ : Mem) : Option (Int32) :=
  if (σ.1 3 7) ≤ 0 then (
    some 0
  ) else (
    gd (inB ((σ.1 3 7) - 1) 160) (
      bn1 (fX1_rank (rd σ 7 ((σ.1 3 7) - 1)) σ) fun r1 => (
        some r1
      )
    )
  )
set_option maxHeartbeats 4000000 in
set_option maxRecDepth 100000 in
theorem kX1_lastRank (l : Launch) (g : GG) (cs : CS) (ad : Nat → Nat) (σ : Mem) : CtI l g cs ad (shC g) mX1_lastRank (.code mX1_lastRank cX1_lastRank 1 (some .int)) { frames := 1, cells := 0, slots := 0, locals := 20 } [.ref (ad 3)] σ (pur (fX1_lastRank σ) σ) := by
  refine ctIP_intro (own := "KinInTheHeap$Reader") (by decide +kernel) rfl [some (.ref (ad 3))] (Nat.le_of_ble_eq_true rfl) rfl ?_
  intro p e s m args below meth c A C hr hlk
  refine tr_aload_n C (i := 0) dX1_lastRank_0 rfl rfl ?_
  refine tr_getI C (k := 7) (ci := 1) rfl rfl rfl inT1 rfl (by decide) w139 dX1_lastRank_1 ?_
  refine tr_if_le C (tgt := 24) dX1_lastRank_4 (by decide) (fun q3 => ?_) (fun q3 => ?_)
  · refine tr_iconst C (v := 0) dX1_lastRank_24 (by decide) ?_
    exact tr_iretP C hr hlk dX1_lastRank_25
  · refine tr_aload_n C (i := 0) dX1_lastRank_7 rfl rfl ?_
    refine tr_getR C (k := 4) (ci := 1) rfl rfl rfl inT1 rfl (by decide) w136 dX1_lastRank_8 ?_
    refine tr_aload_n C (i := 0) dX1_lastRank_11 rfl rfl ?_
    refine tr_getI C (k := 7) (ci := 1) rfl rfl rfl inT1 rfl (by decide) w139 dX1_lastRank_12 ?_
    refine tr_iconst C (v := 1) dX1_lastRank_15 (by decide) ?_
    refine tr_isub C dX1_lastRank_16 ?_
    refine tr_iald C (n := 160) rfl dX1_lastRank_17 (fun h2 => ?_)
    refine tr_cSIP C (av := [.int (rd σ 7 ((σ.1 3 7) - 1))]) (st := []) (kX1_rank l g cs ad (rd σ 7 ((σ.1 3 7) - 1)) σ) mwX1_rank w595 ⟨rfl, rfl⟩ ⟨(Nat.le_of_ble_eq_true rfl), (Nat.le_of_ble_eq_true rfl)⟩ rfl rfl (Nat.le_of_ble_eq_true rfl) dX1_lastRank_18 (fun r1 hr1 => ?_)
    refine tr_goto C (tgt := 25) dX1_lastRank_21 (by decide) ?_
    exact tr_iretP C hr hlk dX1_lastRank_25
def fX1_putToWait (a1 : Int32) (σ : Mem) : Option (Mem) :=
  if 160 ≤ (σ.1 3 7) then (
    some σ
  ) else (
    gd (inB (σ.1 3 7) 160) (stp (wr σ 7 (σ.1 3 7) a1) fun σw1 => (
      stp (putI σw1 3 7 ((σw1.1 3 7) + 1)) fun σw2 => (
        some σw2
      )
    ))
  )
set_option maxHeartbeats 4000000 in
set_option maxRecDepth 100000 in
theorem kX1_putToWait (l : Launch) (g : GG) (cs : CS) (ad : Nat → Nat) (a1 : Int32) (σ : Mem) : CtV l g cs ad (shC g) mX1_putToWait (.code mX1_putToWait cX1_putToWait 2 none) { frames := 0, cells := 0, slots := 0, locals := 0 } [.ref (ad 3), .int a1] σ (fX1_putToWait a1 σ) := by
  refine ctV_intro (own := "KinInTheHeap$Reader") (by decide +kernel) rfl [some (.ref (ad 3)), some (.int a1)] (Nat.le_of_ble_eq_true rfl) rfl ?_
  intro p e s m args below meth c A C hr hlk
  refine tr_aload_n C (i := 0) dX1_putToWait_0 rfl rfl ?_
  refine tr_getI C (k := 7) (ci := 1) rfl rfl rfl inT1 rfl (by decide) w139 dX1_putToWait_1 ?_
  refine tr_sipush C (v := 160) dX1_putToWait_4 (by decide) ?_
  refine tr_icmp_ge C (tgt := 30) dX1_putToWait_7 (by decide) (fun q4 => ?_) (fun q4 => ?_)
  · exact tr_vret C hr hlk dX1_putToWait_30
  · refine tr_aload_n C (i := 0) dX1_putToWait_10 rfl rfl ?_
    refine tr_getR C (k := 4) (ci := 1) rfl rfl rfl inT1 rfl (by decide) w136 dX1_putToWait_11 ?_
    refine tr_aload_n C (i := 0) dX1_putToWait_14 rfl rfl ?_
    refine tr_getI C (k := 7) (ci := 1) rfl rfl rfl inT1 rfl (by decide) w139 dX1_putToWait_15 ?_
    refine tr_iload_n C (i := 1) dX1_putToWait_18 rfl rfl ?_
    refine tr_iast C (n := 160) (σ' := wr σ 7 (σ.1 3 7) a1) rfl dX1_putToWait_19 rfl (fun h3 => ?_)
    refine tr_stp (fun σw1 eσw1 => ?_)
    refine tr_aload_n C (i := 0) dX1_putToWait_20 rfl rfl ?_
    refine tr_dup C dX1_putToWait_21 rfl ?_
    refine tr_getI C (k := 7) (ci := 1) rfl rfl rfl inT1 rfl (by decide) w139 dX1_putToWait_22 ?_
    refine tr_iconst C (v := 1) dX1_putToWait_25 (by decide) ?_
    refine tr_iadd C dX1_putToWait_26 ?_
    refine tr_putI C (k := 7) (ci := 1) (σ' := putI σw1 3 7 ((σw1.1 3 7) + 1)) rfl rfl rfl inT1 rfl (by decide) tyX1 tyX1_ok nmX1 rfl rfl w139 dX1_putToWait_27 rfl ?_
    refine tr_stp (fun σw2 eσw2 => ?_)
    exact tr_vret C hr hlk dX1_putToWait_30
def fX1_opens_b35 (a1 : Int32) (σ35 : Mem) (z0_35 : Int32) : Option (Int32 × Mem) :=
  if z0_35 = 0 then (
    some (0, σ35)
  ) else (
    if (σ35.1 3 8) < 5 then (
      stp (putI σ35 3 8 ((σ35.1 3 8) + 1)) fun σw1 => (
        if a1 = (-14) then (
          bn1 (fX1_putToWait (-18) σw1) fun σ3 => (
            some (1, σ3)
          )
        ) else (
          bn1 (fX1_putToWait a1 σw1) fun σ2 => (
            some (1, σ2)
          )
        )
      )
    ) else (
      some (0, σ35)
    )
  )
def fX1_opens_b30 (a1 : Int32) (σ30 : Mem) : Option (Int32 × Mem) :=
  fX1_opens_b35 a1 σ30 1
def fX1_opens_b34 (a1 : Int32) (σ34 : Mem) : Option (Int32 × Mem) :=
  fX1_opens_b35 a1 σ34 0
def fX1_opens (a1 : Int32) (σ : Mem) : Option (Int32 × Mem) :=
  if a1 = (-10) then (
    fX1_opens_b30 a1 σ
  ) else (
    if a1 = (-14) then (
      fX1_opens_b30 a1 σ
    ) else (
      if a1 = (-8) then (
        bn1 (fX1_lastRank σ) fun r7 => (
          bn1 (fX1_rank (-8) σ) fun r8 => (
            if r8 < r7 then (
              fX1_opens_b34 a1 σ
            ) else (
              fX1_opens_b30 a1 σ
            )
          )
        )
      ) else (
        fX1_opens_b34 a1 σ
      )
    )
  )
set_option maxHeartbeats 4000000 in
set_option maxRecDepth 100000 in
theorem kX1_opens (l : Launch) (g : GG) (cs : CS) (ad : Nat → Nat) (a1 : Int32) (σ : Mem) : CtI l g cs ad (shC g) mX1_opens (.code mX1_opens cX1_opens 3 (some .boolean)) { frames := 2, cells := 0, slots := 0, locals := 40 } [.ref (ad 3), .int a1] σ (fX1_opens a1 σ) := by
  refine ctI_intro (own := "KinInTheHeap$Reader") (by decide +kernel) rfl [some (.ref (ad 3)), some (.int a1), none] (Nat.le_of_ble_eq_true rfl) rfl ?_
  intro p e s m args below meth c A C hr hlk
  refine tr_iload_n C (i := 1) dX1_opens_0 rfl rfl ?_
  refine tr_bipush C (v := -10) dX1_opens_1 (by decide) ?_
  have B35 : ∀ (σ35 : Mem) (z0_35 : Int32), Tr p l e { frames := 2, cells := 0, slots := 0, locals := 40 } s m args below meth c g ad (shC g) A 3 (QI g ad (shC g) A below args s) (fX1_opens_b35 a1 σ35 z0_35) σ35 35 [some (.ref (ad 3)), some (.int a1), none] [.int z0_35] := by
    intro σ35 z0_35
    refine tr_istore_n C (i := 2) (lv' := [some (.ref (ad 3)), some (.int a1), some (.int z0_35)]) dX1_opens_35 rfl (by decide) rfl ?_
    refine tr_iload_n C (i := 2) dX1_opens_36 rfl rfl ?_
    refine tr_if_eq C (tgt := 48) dX1_opens_37 (by decide) (fun q6 => ?_) (fun q6 => ?_)
    · refine tr_iconst C (v := 0) dX1_opens_48 (by decide) ?_
      exact tr_zret C hr hlk rfl dX1_opens_49
    · refine tr_aload_n C (i := 0) dX1_opens_40 rfl rfl ?_
      refine tr_getI C (k := 8) (ci := 1) rfl rfl rfl inT1 rfl (by decide) w140 dX1_opens_41 ?_
      refine tr_iconst C (v := 5) dX1_opens_44 (by decide) ?_
      refine tr_icmp_lt C (tgt := 50) dX1_opens_45 (by decide) (fun q5 => ?_) (fun q5 => ?_)
      · refine tr_aload_n C (i := 0) dX1_opens_50 rfl rfl ?_
        refine tr_dup C dX1_opens_51 rfl ?_
        refine tr_getI C (k := 8) (ci := 1) rfl rfl rfl inT1 rfl (by decide) w140 dX1_opens_52 ?_
        refine tr_iconst C (v := 1) dX1_opens_55 (by decide) ?_
        refine tr_iadd C dX1_opens_56 ?_
        refine tr_putI C (k := 8) (ci := 1) (σ' := putI σ35 3 8 ((σ35.1 3 8) + 1)) rfl rfl rfl inT1 rfl (by decide) tyX1 tyX1_ok nmX1 rfl rfl w140 dX1_opens_57 rfl ?_
        refine tr_stp (fun σw1 eσw1 => ?_)
        refine tr_aload_n C (i := 0) dX1_opens_60 rfl rfl ?_
        refine tr_iload_n C (i := 1) dX1_opens_61 rfl rfl ?_
        refine tr_bipush C (v := -14) dX1_opens_62 (by decide) ?_
        refine tr_icmp_ne C (tgt := 72) dX1_opens_64 (by decide) (fun q4 => ?_) (fun q4 => ?_)
        · refine tr_bipush C (v := -18) dX1_opens_67 (by decide) ?_
          refine tr_goto C (tgt := 73) dX1_opens_69 (by decide) ?_
          refine tr_cVV C (av := [.int (-18)]) (st := []) (kX1_putToWait l g cs ad (-18) σw1) mwX1_putToWait w598 rfl rfl ⟨rfl, rfl⟩ ⟨(Nat.le_of_ble_eq_true rfl), (Nat.le_of_ble_eq_true rfl)⟩ rfl rfl (Nat.le_of_ble_eq_true rfl) dX1_opens_73 (fun σ3 hr3 => ?_)
          refine tr_iconst C (v := 1) dX1_opens_76 (by decide) ?_
          exact tr_zret C hr hlk rfl dX1_opens_77
        · refine tr_iload_n C (i := 1) dX1_opens_72 rfl rfl ?_
          refine tr_cVV C (av := [.int a1]) (st := []) (kX1_putToWait l g cs ad a1 σw1) mwX1_putToWait w598 rfl rfl ⟨rfl, rfl⟩ ⟨(Nat.le_of_ble_eq_true rfl), (Nat.le_of_ble_eq_true rfl)⟩ rfl rfl (Nat.le_of_ble_eq_true rfl) dX1_opens_73 (fun σ2 hr2 => ?_)
          refine tr_iconst C (v := 1) dX1_opens_76 (by decide) ?_
          exact tr_zret C hr hlk rfl dX1_opens_77
      · refine tr_iconst C (v := 0) dX1_opens_48 (by decide) ?_
        exact tr_zret C hr hlk rfl dX1_opens_49
  have B30 : ∀ (σ30 : Mem), Tr p l e { frames := 2, cells := 0, slots := 0, locals := 40 } s m args below meth c g ad (shC g) A 3 (QI g ad (shC g) A below args s) (fX1_opens_b30 a1 σ30) σ30 30 [some (.ref (ad 3)), some (.int a1), none] [] := by
    intro σ30
    refine tr_iconst C (v := 1) dX1_opens_30 (by decide) ?_
    refine tr_goto C (tgt := 35) dX1_opens_31 (by decide) ?_
    exact B35 σ30 1
  refine tr_icmp_eq C (tgt := 30) dX1_opens_3 (by decide) (fun q12 => ?_) (fun q12 => ?_)
  · exact B30 σ
  · refine tr_iload_n C (i := 1) dX1_opens_6 rfl rfl ?_
    refine tr_bipush C (v := -14) dX1_opens_7 (by decide) ?_
    refine tr_icmp_eq C (tgt := 30) dX1_opens_9 (by decide) (fun q11 => ?_) (fun q11 => ?_)
    · exact B30 σ
    · refine tr_iload_n C (i := 1) dX1_opens_12 rfl rfl ?_
      refine tr_bipush C (v := -8) dX1_opens_13 (by decide) ?_
      have B34 : ∀ (σ34 : Mem), Tr p l e { frames := 2, cells := 0, slots := 0, locals := 40 } s m args below meth c g ad (shC g) A 3 (QI g ad (shC g) A below args s) (fX1_opens_b34 a1 σ34) σ34 34 [some (.ref (ad 3)), some (.int a1), none] [] := by
        intro σ34
        refine tr_iconst C (v := 0) dX1_opens_34 (by decide) ?_
        exact B35 σ34 0
      refine tr_icmp_ne C (tgt := 34) dX1_opens_15 (by decide) (fun q10 => ?_) (fun q10 => ?_)
      · refine tr_aload_n C (i := 0) dX1_opens_18 rfl rfl ?_
        refine tr_cVIP C (av := []) (st := []) (kX1_lastRank l g cs ad σ) mwX1_lastRank w591 rfl rfl ⟨rfl, rfl⟩ ⟨(Nat.le_of_ble_eq_true rfl), (Nat.le_of_ble_eq_true rfl)⟩ rfl rfl (Nat.le_of_ble_eq_true rfl) dX1_opens_19 (fun r7 hr7 => ?_)
        refine tr_bipush C (v := -8) dX1_opens_22 (by decide) ?_
        refine tr_cSIP C (av := [.int (-8)]) (st := [.int r7]) (kX1_rank l g cs ad (-8) σ) mwX1_rank w595 ⟨rfl, rfl⟩ ⟨(Nat.le_of_ble_eq_true rfl), (Nat.le_of_ble_eq_true rfl)⟩ rfl rfl (Nat.le_of_ble_eq_true rfl) dX1_opens_24 (fun r8 hr8 => ?_)
        refine tr_icmp_gt C (tgt := 34) dX1_opens_27 (by decide) (fun q9 => ?_) (fun q9 => ?_)
        · exact B34 σ
        · exact B30 σ
      · exact B34 σ
def fX1_letGo_b47 (a1 : Int32) (b2 : Nat) (ih0 : Mem → Option (Mem)) (σ47 : Mem) (y3_47 : Int32) : Option (Mem) :=
  stp (putI σ47 3 8 ((σ47.1 3 8) - 1)) fun σw3 => (
    bn1 (fX3_add b2 y3_47 σw3) fun σ4 => (
      ih0 σ4
    )
  )
def fX1_letGo_L0 (a1 : Int32) (b2 : Nat) (ih0 : Mem → Option (Mem)) : Mem → Option (Mem) := fun v => match v with
  | σ0 =>
    if (σ0.1 3 7) ≤ 0 then (
      some σ0
    ) else (
      bn1 (fX1_lastRank σ0) fun r1 => (
        if r1 < a1 then (
          some σ0
        ) else (
          stp (putI σ0 3 7 ((σ0.1 3 7) - 1)) fun σw2 => (
            gd (inB (σw2.1 3 7) 160) (
              if (rd σw2 7 (σw2.1 3 7)) = (-8) then (
                fX1_letGo_b47 a1 b2 ih0 σw2 (rd σw2 7 (σw2.1 3 7))
              ) else (
                if (rd σw2 7 (σw2.1 3 7)) = (-18) then (
                  fX1_letGo_b47 a1 b2 ih0 σw2 (rd σw2 7 (σw2.1 3 7))
                ) else (
                  bn1 (fX3_add b2 (rd σw2 7 (σw2.1 3 7)) σw2) fun σ5 => (
                    ih0 σ5
                  )
                )
              )
            )
          )
        )
      )
    )
def fX1_letGo (a1 : Int32) (b2 : Nat) (σ : Mem) : Option (Mem) :=
  loopN (fX1_letGo_L0 a1 b2) 1000 σ
set_option maxHeartbeats 4000000 in
set_option maxRecDepth 100000 in
theorem kX1_letGo (l : Launch) (g : GG) (cs : CS) (ad : Nat → Nat) (a1 : Int32) (b2 : Nat) (hb2 : isTx b2) (σ : Mem) : CtV l g cs ad (shC g) mX1_letGo (.code mX1_letGo cX1_letGo 4 none) { frames := 2, cells := 0, slots := 0, locals := 40 } [.ref (ad 3), .int a1, .ref (ad b2)] σ (fX1_letGo a1 b2 σ) := by
  refine ctV_intro (own := "KinInTheHeap$Reader") (by decide +kernel) rfl [some (.ref (ad 3)), some (.int a1), some (.ref (ad b2)), none] (Nat.le_of_ble_eq_true rfl) rfl ?_
  intro p e s m args below meth c A C hr hlk
  refine tr_loop (b := fX1_letGo_L0 a1 b2) (sg := fun v => v) (lw := fun v => [some (.ref (ad 3)), some (.int a1), some (.ref (ad b2)), none]) (sw := fun v => []) (fun ih0 IH0 v => ?_) 1000 σ
  obtain ⟨σ0, rfl⟩ : ∃ z, z = v := ⟨v, rfl⟩
  refine tr_st (σ' := σ0) (lv' := [some (.ref (ad 3)), some (.int a1), some (.ref (ad b2)), none]) (st' := []) rfl rfl rfl ?_
  refine tr_aload_n C (i := 0) dX1_letGo_0 rfl rfl ?_
  refine tr_getI C (k := 7) (ci := 1) rfl rfl rfl inT1 rfl (by decide) w139 dX1_letGo_1 ?_
  refine tr_if_le C (tgt := 65) dX1_letGo_4 (by decide) (fun q10 => ?_) (fun q10 => ?_)
  · exact tr_vret C hr hlk dX1_letGo_65
  · refine tr_aload_n C (i := 0) dX1_letGo_7 rfl rfl ?_
    refine tr_cVIP C (av := []) (st := []) (kX1_lastRank l g cs ad σ0) mwX1_lastRank w591 rfl rfl ⟨rfl, rfl⟩ ⟨(Nat.le_of_ble_eq_true rfl), (Nat.le_of_ble_eq_true rfl)⟩ rfl rfl (Nat.le_of_ble_eq_true rfl) dX1_letGo_8 (fun r1 hr1 => ?_)
    refine tr_iload_n C (i := 1) dX1_letGo_11 rfl rfl ?_
    refine tr_icmp_lt C (tgt := 65) dX1_letGo_12 (by decide) (fun q9 => ?_) (fun q9 => ?_)
    · exact tr_vret C hr hlk dX1_letGo_65
    · refine tr_aload_n C (i := 0) dX1_letGo_15 rfl rfl ?_
      refine tr_dup C dX1_letGo_16 rfl ?_
      refine tr_getI C (k := 7) (ci := 1) rfl rfl rfl inT1 rfl (by decide) w139 dX1_letGo_17 ?_
      refine tr_iconst C (v := 1) dX1_letGo_20 (by decide) ?_
      refine tr_isub C dX1_letGo_21 ?_
      refine tr_putI C (k := 7) (ci := 1) (σ' := putI σ0 3 7 ((σ0.1 3 7) - 1)) rfl rfl rfl inT1 rfl (by decide) tyX1 tyX1_ok nmX1 rfl rfl w139 dX1_letGo_22 rfl ?_
      refine tr_stp (fun σw2 eσw2 => ?_)
      refine tr_aload_n C (i := 0) dX1_letGo_25 rfl rfl ?_
      refine tr_getR C (k := 4) (ci := 1) rfl rfl rfl inT1 rfl (by decide) w136 dX1_letGo_26 ?_
      refine tr_aload_n C (i := 0) dX1_letGo_29 rfl rfl ?_
      refine tr_getI C (k := 7) (ci := 1) rfl rfl rfl inT1 rfl (by decide) w139 dX1_letGo_30 ?_
      refine tr_iald C (n := 160) rfl dX1_letGo_33 (fun h8 => ?_)
      refine tr_istore_n C (i := 3) (lv' := [some (.ref (ad 3)), some (.int a1), some (.ref (ad b2)), some (.int (rd σw2 7 (σw2.1 3 7)))]) dX1_letGo_34 rfl (by decide) rfl ?_
      refine tr_iload_n C (i := 3) dX1_letGo_35 rfl rfl ?_
      refine tr_bipush C (v := -8) dX1_letGo_36 (by decide) ?_
      have B47 : ∀ (σ47 : Mem) (y3_47 : Int32), Tr p l e { frames := 2, cells := 0, slots := 0, locals := 40 } s m args below meth c g ad (shC g) A 4 (QV g ad (shC g) A below args s) (fX1_letGo_b47 a1 b2 ih0 σ47 y3_47) σ47 47 [some (.ref (ad 3)), some (.int a1), some (.ref (ad b2)), some (.int y3_47)] [] := by
        intro σ47 y3_47
        refine tr_aload_n C (i := 0) dX1_letGo_47 rfl rfl ?_
        refine tr_dup C dX1_letGo_48 rfl ?_
        refine tr_getI C (k := 8) (ci := 1) rfl rfl rfl inT1 rfl (by decide) w140 dX1_letGo_49 ?_
        refine tr_iconst C (v := 1) dX1_letGo_52 (by decide) ?_
        refine tr_isub C dX1_letGo_53 ?_
        refine tr_putI C (k := 8) (ci := 1) (σ' := putI σ47 3 8 ((σ47.1 3 8) - 1)) rfl rfl rfl inT1 rfl (by decide) tyX1 tyX1_ok nmX1 rfl rfl w140 dX1_letGo_54 rfl ?_
        refine tr_stp (fun σw3 eσw3 => ?_)
        refine tr_aload_n C (i := 2) dX1_letGo_57 rfl rfl ?_
        refine tr_iload_n C (i := 3) dX1_letGo_58 rfl rfl ?_
        refine tr_cVV C (av := [.int y3_47]) (st := []) (kX3_add l g cs ad b2 y3_47 hb2 σw3) mwX3_add w586 (tx_0 hb2) rfl ⟨rfl, rfl⟩ ⟨(Nat.le_of_ble_eq_true rfl), (Nat.le_of_ble_eq_true rfl)⟩ rfl rfl (Nat.le_of_ble_eq_true rfl) dX1_letGo_59 (fun σ4 hr4 => ?_)
        refine tr_goto C (tgt := 0) dX1_letGo_62 (by decide) ?_
        refine tr_mask [true, true, true, false] rfl ?_
        exact IH0 σ4
      refine tr_icmp_eq C (tgt := 47) dX1_letGo_38 (by decide) (fun q7 => ?_) (fun q7 => ?_)
      · exact B47 σw2 (rd σw2 7 (σw2.1 3 7))
      · refine tr_iload_n C (i := 3) dX1_letGo_41 rfl rfl ?_
        refine tr_bipush C (v := -18) dX1_letGo_42 (by decide) ?_
        refine tr_icmp_ne C (tgt := 57) dX1_letGo_44 (by decide) (fun q6 => ?_) (fun q6 => ?_)
        · exact B47 σw2 (rd σw2 7 (σw2.1 3 7))
        · refine tr_aload_n C (i := 2) dX1_letGo_57 rfl rfl ?_
          refine tr_iload_n C (i := 3) dX1_letGo_58 rfl rfl ?_
          refine tr_cVV C (av := [.int (rd σw2 7 (σw2.1 3 7))]) (st := []) (kX3_add l g cs ad b2 (rd σw2 7 (σw2.1 3 7)) hb2 σw2) mwX3_add w586 (tx_0 hb2) rfl ⟨rfl, rfl⟩ ⟨(Nat.le_of_ble_eq_true rfl), (Nat.le_of_ble_eq_true rfl)⟩ rfl rfl (Nat.le_of_ble_eq_true rfl) dX1_letGo_59 (fun σ5 hr5 => ?_)
          refine tr_goto C (tgt := 0) dX1_letGo_62 (by decide) ?_
          refine tr_mask [true, true, true, false] rfl ?_
          exact IH0 σ5
def fX3_endPart (b : Nat) (σ : Mem) : Option (Mem) :=
  if 3 ≤ (σ.1 b 4) then (
    some σ
  ) else (
    gd (inB (σ.1 b 4) 3) (stp (wr σ (b + 2) (σ.1 b 4) (σ.1 b 3)) fun σw1 => (
      stp (putI σw1 b 4 ((σw1.1 b 4) + 1)) fun σw2 => (
        some σw2
      )
    ))
  )
set_option maxHeartbeats 4000000 in
set_option maxRecDepth 100000 in
theorem kX3_endPart (l : Launch) (g : GG) (cs : CS) (ad : Nat → Nat) (b : Nat) (hb : isTx b) (σ : Mem) : CtV l g cs ad (shC g) mX3_endPart (.code mX3_endPart cX3_endPart 1 none) { frames := 0, cells := 0, slots := 0, locals := 0 } [.ref (ad b)] σ (fX3_endPart b σ) := by
  refine ctV_intro (own := "KinInTheHeap$Text") (by decide +kernel) rfl [some (.ref (ad b))] (Nat.le_of_ble_eq_true rfl) rfl ?_
  intro p e s m args below meth c A C hr hlk
  refine tr_aload_n C (i := 0) dX3_endPart_0 rfl rfl ?_
  refine tr_getI C (k := 4) (ci := 3) (tx_0 hb) rfl rfl inT3 rfl (by decide) w170 dX3_endPart_1 ?_
  refine tr_iconst C (v := 3) dX3_endPart_4 (by decide) ?_
  refine tr_icmp_ge C (tgt := 31) dX3_endPart_5 (by decide) (fun q4 => ?_) (fun q4 => ?_)
  · exact tr_vret C hr hlk dX3_endPart_31
  · refine tr_aload_n C (i := 0) dX3_endPart_8 rfl rfl ?_
    refine tr_getR C (k := 1) (ci := 3) (tx_0 hb) rfl rfl inT3 rfl (by decide) w167 dX3_endPart_9 ?_
    refine tr_aload_n C (i := 0) dX3_endPart_12 rfl rfl ?_
    refine tr_getI C (k := 4) (ci := 3) (tx_0 hb) rfl rfl inT3 rfl (by decide) w170 dX3_endPart_13 ?_
    refine tr_aload_n C (i := 0) dX3_endPart_16 rfl rfl ?_
    refine tr_getI C (k := 3) (ci := 3) (tx_0 hb) rfl rfl inT3 rfl (by decide) w169 dX3_endPart_17 ?_
    refine tr_iast C (n := 3) (σ' := wr σ (b + 2) (σ.1 b 4) (σ.1 b 3)) (tx_2 hb) dX3_endPart_20 rfl (fun h3 => ?_)
    refine tr_stp (fun σw1 eσw1 => ?_)
    refine tr_aload_n C (i := 0) dX3_endPart_21 rfl rfl ?_
    refine tr_dup C dX3_endPart_22 rfl ?_
    refine tr_getI C (k := 4) (ci := 3) (tx_0 hb) rfl rfl inT3 rfl (by decide) w170 dX3_endPart_23 ?_
    refine tr_iconst C (v := 1) dX3_endPart_26 (by decide) ?_
    refine tr_iadd C dX3_endPart_27 ?_
    refine tr_putI C (k := 4) (ci := 3) (σ' := putI σw1 b 4 ((σw1.1 b 4) + 1)) (tx_0 hb) rfl rfl inT3 rfl (by decide) tyX3 tyX3_ok nmX3 rfl rfl w170 dX3_endPart_28 rfl ?_
    refine tr_stp (fun σw2 eσw2 => ?_)
    exact tr_vret C hr hlk dX3_endPart_31
def fX1_ends (b1 : Nat) (σ : Mem) : Option (Int32 × Mem) :=
  bn1 (fX1_rank (-6) σ) fun r1 => (
    bn1 (fX1_letGo r1 b1 σ) fun σ2 => (
      if (σ2.1 3 7) ≤ 0 then (
        bn1 (fX3_endPart b1 σ2) fun σ3 => (
          stp (putI σ3 3 6 ((σ3.1 3 6) + 1)) fun σw4 => (
            some (1, σw4)
          )
        )
      ) else (
        some (0, σ2)
      )
    )
  )
set_option maxHeartbeats 4000000 in
set_option maxRecDepth 100000 in
theorem kX1_ends (l : Launch) (g : GG) (cs : CS) (ad : Nat → Nat) (b1 : Nat) (hb1 : isTx b1) (σ : Mem) : CtI l g cs ad (shC g) mX1_ends (.code mX1_ends cX1_ends 2 (some .boolean)) { frames := 3, cells := 0, slots := 0, locals := 63 } [.ref (ad 3), .ref (ad b1)] σ (fX1_ends b1 σ) := by
  refine ctI_intro (own := "KinInTheHeap$Reader") (by decide +kernel) rfl [some (.ref (ad 3)), some (.ref (ad b1))] (Nat.le_of_ble_eq_true rfl) rfl ?_
  intro p e s m args below meth c A C hr hlk
  refine tr_aload_n C (i := 0) dX1_ends_0 rfl rfl ?_
  refine tr_bipush C (v := -6) dX1_ends_1 (by decide) ?_
  refine tr_cSIP C (av := [.int (-6)]) (st := [.ref (ad 3)]) (kX1_rank l g cs ad (-6) σ) mwX1_rank w595 ⟨rfl, rfl⟩ ⟨(Nat.le_of_ble_eq_true rfl), (Nat.le_of_ble_eq_true rfl)⟩ rfl rfl (Nat.le_of_ble_eq_true rfl) dX1_ends_3 (fun r1 hr1 => ?_)
  refine tr_aload_n C (i := 1) dX1_ends_6 rfl rfl ?_
  refine tr_cVV C (av := [.int r1, .ref (ad b1)]) (st := []) (kX1_letGo l g cs ad r1 b1 hb1 σ) mwX1_letGo w606 rfl rfl ⟨rfl, rfl⟩ ⟨(Nat.le_of_ble_eq_true rfl), (Nat.le_of_ble_eq_true rfl)⟩ rfl rfl (Nat.le_of_ble_eq_true rfl) dX1_ends_7 (fun σ2 hr2 => ?_)
  refine tr_aload_n C (i := 0) dX1_ends_10 rfl rfl ?_
  refine tr_getI C (k := 7) (ci := 1) rfl rfl rfl inT1 rfl (by decide) w139 dX1_ends_11 ?_
  refine tr_if_le C (tgt := 19) dX1_ends_14 (by decide) (fun q5 => ?_) (fun q5 => ?_)
  · refine tr_aload_n C (i := 1) dX1_ends_19 rfl rfl ?_
    refine tr_cVV C (av := []) (st := []) (kX3_endPart l g cs ad b1 hb1 σ2) mwX3_endPart w610 (tx_0 hb1) rfl ⟨rfl, rfl⟩ ⟨(Nat.le_of_ble_eq_true rfl), (Nat.le_of_ble_eq_true rfl)⟩ rfl rfl (Nat.le_of_ble_eq_true rfl) dX1_ends_20 (fun σ3 hr3 => ?_)
    refine tr_aload_n C (i := 0) dX1_ends_23 rfl rfl ?_
    refine tr_dup C dX1_ends_24 rfl ?_
    refine tr_getI C (k := 6) (ci := 1) rfl rfl rfl inT1 rfl (by decide) w138 dX1_ends_25 ?_
    refine tr_iconst C (v := 1) dX1_ends_28 (by decide) ?_
    refine tr_iadd C dX1_ends_29 ?_
    refine tr_putI C (k := 6) (ci := 1) (σ' := putI σ3 3 6 ((σ3.1 3 6) + 1)) rfl rfl rfl inT1 rfl (by decide) tyX1 tyX1_ok nmX1 rfl rfl w138 dX1_ends_30 rfl ?_
    refine tr_stp (fun σw4 eσw4 => ?_)
    refine tr_iconst C (v := 1) dX1_ends_33 (by decide) ?_
    exact tr_zret C hr hlk rfl dX1_ends_34
  · refine tr_iconst C (v := 0) dX1_ends_17 (by decide) ?_
    exact tr_zret C hr hlk rfl dX1_ends_18
def fX1_closes (b1 : Nat) (σ : Mem) : Option (Int32 × Mem) :=
  bn1 (fX1_rank (-6) σ) fun r1 => (
    bn1 (fX1_letGo r1 b1 σ) fun σ2 => (
      if 0 < (σ2.1 3 7) then (
        stp (putI σ2 3 7 ((σ2.1 3 7) - 1)) fun σw3 => (
          stp (putI σw3 3 8 ((σw3.1 3 8) - 1)) fun σw4 => (
            some (1, σw4)
          )
        )
      ) else (
        some (0, σ2)
      )
    )
  )
set_option maxHeartbeats 4000000 in
set_option maxRecDepth 100000 in
theorem kX1_closes (l : Launch) (g : GG) (cs : CS) (ad : Nat → Nat) (b1 : Nat) (hb1 : isTx b1) (σ : Mem) : CtI l g cs ad (shC g) mX1_closes (.code mX1_closes cX1_closes 2 (some .boolean)) { frames := 3, cells := 0, slots := 0, locals := 63 } [.ref (ad 3), .ref (ad b1)] σ (fX1_closes b1 σ) := by
  refine ctI_intro (own := "KinInTheHeap$Reader") (by decide +kernel) rfl [some (.ref (ad 3)), some (.ref (ad b1))] (Nat.le_of_ble_eq_true rfl) rfl ?_
  intro p e s m args below meth c A C hr hlk
  refine tr_aload_n C (i := 0) dX1_closes_0 rfl rfl ?_
  refine tr_bipush C (v := -6) dX1_closes_1 (by decide) ?_
  refine tr_cSIP C (av := [.int (-6)]) (st := [.ref (ad 3)]) (kX1_rank l g cs ad (-6) σ) mwX1_rank w595 ⟨rfl, rfl⟩ ⟨(Nat.le_of_ble_eq_true rfl), (Nat.le_of_ble_eq_true rfl)⟩ rfl rfl (Nat.le_of_ble_eq_true rfl) dX1_closes_3 (fun r1 hr1 => ?_)
  refine tr_aload_n C (i := 1) dX1_closes_6 rfl rfl ?_
  refine tr_cVV C (av := [.int r1, .ref (ad b1)]) (st := []) (kX1_letGo l g cs ad r1 b1 hb1 σ) mwX1_letGo w606 rfl rfl ⟨rfl, rfl⟩ ⟨(Nat.le_of_ble_eq_true rfl), (Nat.le_of_ble_eq_true rfl)⟩ rfl rfl (Nat.le_of_ble_eq_true rfl) dX1_closes_7 (fun σ2 hr2 => ?_)
  refine tr_aload_n C (i := 0) dX1_closes_10 rfl rfl ?_
  refine tr_getI C (k := 7) (ci := 1) rfl rfl rfl inT1 rfl (by decide) w139 dX1_closes_11 ?_
  refine tr_if_gt C (tgt := 19) dX1_closes_14 (by decide) (fun q5 => ?_) (fun q5 => ?_)
  · refine tr_aload_n C (i := 0) dX1_closes_19 rfl rfl ?_
    refine tr_dup C dX1_closes_20 rfl ?_
    refine tr_getI C (k := 7) (ci := 1) rfl rfl rfl inT1 rfl (by decide) w139 dX1_closes_21 ?_
    refine tr_iconst C (v := 1) dX1_closes_24 (by decide) ?_
    refine tr_isub C dX1_closes_25 ?_
    refine tr_putI C (k := 7) (ci := 1) (σ' := putI σ2 3 7 ((σ2.1 3 7) - 1)) rfl rfl rfl inT1 rfl (by decide) tyX1 tyX1_ok nmX1 rfl rfl w139 dX1_closes_26 rfl ?_
    refine tr_stp (fun σw3 eσw3 => ?_)
    refine tr_aload_n C (i := 0) dX1_closes_29 rfl rfl ?_
    refine tr_dup C dX1_closes_30 rfl ?_
    refine tr_getI C (k := 8) (ci := 1) rfl rfl rfl inT1 rfl (by decide) w140 dX1_closes_31 ?_
    refine tr_iconst C (v := 1) dX1_closes_34 (by decide) ?_
    refine tr_isub C dX1_closes_35 ?_
    refine tr_putI C (k := 8) (ci := 1) (σ' := putI σw3 3 8 ((σw3.1 3 8) - 1)) rfl rfl rfl inT1 rfl (by decide) tyX1 tyX1_ok nmX1 rfl rfl w140 dX1_closes_36 rfl ?_
    refine tr_stp (fun σw4 eσw4 => ?_)
    refine tr_iconst C (v := 1) dX1_closes_39 (by decide) ?_
    exact tr_zret C hr hlk rfl dX1_closes_40
  · refine tr_iconst C (v := 0) dX1_closes_17 (by decide) ?_
    exact tr_zret C hr hlk rfl dX1_closes_18
def fX1_joins (a1 : Int32) (b2 : Nat) (σ : Mem) : Option (Int32 × Mem) :=
  bn1 (fX1_rank a1 σ) fun r1 => (
    if r1 < 0 then (
      some (0, σ)
    ) else (
      if a1 = (-10) then (
        some (0, σ)
      ) else (
        if a1 = (-8) then (
          some (0, σ)
        ) else (
          bn1 (fX1_rank (-16) σ) fun r2 => (
            if r1 = r2 then (
              bn1 (fX1_letGo (r1 + 1) b2 σ) fun σ3 => (
                bn1 (fX1_lastRank σ3) fun r4 => (
                  if r4 = r1 then (
                    some (0, σ3)
                  ) else (
                    bn1 (fX1_putToWait a1 σ3) fun σ5 => (
                      some (1, σ5)
                    )
                  )
                )
              )
            ) else (
              bn1 (fX1_letGo r1 b2 σ) fun σ7 => (
                bn1 (fX1_putToWait a1 σ7) fun σ8 => (
                  some (1, σ8)
                )
              )
            )
          )
        )
      )
    )
  )
set_option maxHeartbeats 4000000 in
set_option maxRecDepth 100000 in
theorem kX1_joins (l : Launch) (g : GG) (cs : CS) (ad : Nat → Nat) (a1 : Int32) (b2 : Nat) (hb2 : isTx b2) (σ : Mem) : CtI l g cs ad (shC g) mX1_joins (.code mX1_joins cX1_joins 4 (some .boolean)) { frames := 3, cells := 0, slots := 0, locals := 63 } [.ref (ad 3), .int a1, .ref (ad b2)] σ (fX1_joins a1 b2 σ) := by
  refine ctI_intro (own := "KinInTheHeap$Reader") (by decide +kernel) rfl [some (.ref (ad 3)), some (.int a1), some (.ref (ad b2)), none] (Nat.le_of_ble_eq_true rfl) rfl ?_
  intro p e s m args below meth c A C hr hlk
  refine tr_iload_n C (i := 1) dX1_joins_0 rfl rfl ?_
  refine tr_cSIP C (av := [.int a1]) (st := []) (kX1_rank l g cs ad a1 σ) mwX1_rank w595 ⟨rfl, rfl⟩ ⟨(Nat.le_of_ble_eq_true rfl), (Nat.le_of_ble_eq_true rfl)⟩ rfl rfl (Nat.le_of_ble_eq_true rfl) dX1_joins_1 (fun r1 hr1 => ?_)
  refine tr_istore_n C (i := 3) (lv' := [some (.ref (ad 3)), some (.int a1), some (.ref (ad b2)), some (.int r1)]) dX1_joins_4 rfl (by decide) rfl ?_
  refine tr_iload_n C (i := 3) dX1_joins_5 rfl rfl ?_
  refine tr_if_lt C (tgt := 21) dX1_joins_6 (by decide) (fun q12 => ?_) (fun q12 => ?_)
  · refine tr_iconst C (v := 0) dX1_joins_21 (by decide) ?_
    exact tr_zret C hr hlk rfl dX1_joins_22
  · refine tr_iload_n C (i := 1) dX1_joins_9 rfl rfl ?_
    refine tr_bipush C (v := -10) dX1_joins_10 (by decide) ?_
    refine tr_icmp_eq C (tgt := 21) dX1_joins_12 (by decide) (fun q11 => ?_) (fun q11 => ?_)
    · refine tr_iconst C (v := 0) dX1_joins_21 (by decide) ?_
      exact tr_zret C hr hlk rfl dX1_joins_22
    · refine tr_iload_n C (i := 1) dX1_joins_15 rfl rfl ?_
      refine tr_bipush C (v := -8) dX1_joins_16 (by decide) ?_
      refine tr_icmp_ne C (tgt := 23) dX1_joins_18 (by decide) (fun q10 => ?_) (fun q10 => ?_)
      · refine tr_iconst C (v := 0) dX1_joins_21 (by decide) ?_
        exact tr_zret C hr hlk rfl dX1_joins_22
      · refine tr_iload_n C (i := 3) dX1_joins_23 rfl rfl ?_
        refine tr_bipush C (v := -16) dX1_joins_24 (by decide) ?_
        refine tr_cSIP C (av := [.int (-16)]) (st := [.int r1]) (kX1_rank l g cs ad (-16) σ) mwX1_rank w595 ⟨rfl, rfl⟩ ⟨(Nat.le_of_ble_eq_true rfl), (Nat.le_of_ble_eq_true rfl)⟩ rfl rfl (Nat.le_of_ble_eq_true rfl) dX1_joins_26 (fun r2 hr2 => ?_)
        refine tr_icmp_eq C (tgt := 41) dX1_joins_29 (by decide) (fun q9 => ?_) (fun q9 => ?_)
        · refine tr_aload_n C (i := 0) dX1_joins_41 rfl rfl ?_
          refine tr_iload_n C (i := 3) dX1_joins_42 rfl rfl ?_
          refine tr_iconst C (v := 1) dX1_joins_43 (by decide) ?_
          refine tr_iadd C dX1_joins_44 ?_
          refine tr_aload_n C (i := 2) dX1_joins_45 rfl rfl ?_
          refine tr_cVV C (av := [.int (r1 + 1), .ref (ad b2)]) (st := []) (kX1_letGo l g cs ad (r1 + 1) b2 hb2 σ) mwX1_letGo w606 rfl rfl ⟨rfl, rfl⟩ ⟨(Nat.le_of_ble_eq_true rfl), (Nat.le_of_ble_eq_true rfl)⟩ rfl rfl (Nat.le_of_ble_eq_true rfl) dX1_joins_46 (fun σ3 hr3 => ?_)
          refine tr_aload_n C (i := 0) dX1_joins_49 rfl rfl ?_
          refine tr_cVIP C (av := []) (st := []) (kX1_lastRank l g cs ad σ3) mwX1_lastRank w591 rfl rfl ⟨rfl, rfl⟩ ⟨(Nat.le_of_ble_eq_true rfl), (Nat.le_of_ble_eq_true rfl)⟩ rfl rfl (Nat.le_of_ble_eq_true rfl) dX1_joins_50 (fun r4 hr4 => ?_)
          refine tr_iload_n C (i := 3) dX1_joins_53 rfl rfl ?_
          refine tr_icmp_ne C (tgt := 59) dX1_joins_54 (by decide) (fun q6 => ?_) (fun q6 => ?_)
          · refine tr_iconst C (v := 0) dX1_joins_57 (by decide) ?_
            exact tr_zret C hr hlk rfl dX1_joins_58
          · refine tr_aload_n C (i := 0) dX1_joins_59 rfl rfl ?_
            refine tr_iload_n C (i := 1) dX1_joins_60 rfl rfl ?_
            refine tr_cVV C (av := [.int a1]) (st := []) (kX1_putToWait l g cs ad a1 σ3) mwX1_putToWait w598 rfl rfl ⟨rfl, rfl⟩ ⟨(Nat.le_of_ble_eq_true rfl), (Nat.le_of_ble_eq_true rfl)⟩ rfl rfl (Nat.le_of_ble_eq_true rfl) dX1_joins_61 (fun σ5 hr5 => ?_)
            refine tr_iconst C (v := 1) dX1_joins_64 (by decide) ?_
            exact tr_zret C hr hlk rfl dX1_joins_65
        · refine tr_aload_n C (i := 0) dX1_joins_32 rfl rfl ?_
          refine tr_iload_n C (i := 3) dX1_joins_33 rfl rfl ?_
          refine tr_aload_n C (i := 2) dX1_joins_34 rfl rfl ?_
          refine tr_cVV C (av := [.int r1, .ref (ad b2)]) (st := []) (kX1_letGo l g cs ad r1 b2 hb2 σ) mwX1_letGo w606 rfl rfl ⟨rfl, rfl⟩ ⟨(Nat.le_of_ble_eq_true rfl), (Nat.le_of_ble_eq_true rfl)⟩ rfl rfl (Nat.le_of_ble_eq_true rfl) dX1_joins_35 (fun σ7 hr7 => ?_)
          refine tr_goto C (tgt := 59) dX1_joins_38 (by decide) ?_
          refine tr_aload_n C (i := 0) dX1_joins_59 rfl rfl ?_
          refine tr_iload_n C (i := 1) dX1_joins_60 rfl rfl ?_
          refine tr_cVV C (av := [.int a1]) (st := []) (kX1_putToWait l g cs ad a1 σ7) mwX1_putToWait w598 rfl rfl ⟨rfl, rfl⟩ ⟨(Nat.le_of_ble_eq_true rfl), (Nat.le_of_ble_eq_true rfl)⟩ rfl rfl (Nat.le_of_ble_eq_true rfl) dX1_joins_61 (fun σ8 hr8 => ?_)
          refine tr_iconst C (v := 1) dX1_joins_64 (by decide) ?_
          exact tr_zret C hr hlk rfl dX1_joins_65
def fX1_readPart_b74 (a1 : Int32) (b2 : Nat) (ih32 : Mem × Int32 → Option (Int32 × Mem)) (σ74 : Mem) (y3_74 : Int32) (y4_74 : Int32) : Option (Int32 × Mem) :=
  if y3_74 = 0 then (
    if y4_74 = (-12) then (
      bnd (fX1_ends b2 σ74) fun r12 σ12 => (
        gd (isB r12) (some (r12, σ12))
      )
    ) else (
      if y4_74 = (-11) then (
        bnd (fX1_closes b2 σ74) fun r8 σ8 => (
          if r8 = 0 then (
            some (0, σ8)
          ) else (
            stp (putI σ8 3 6 ((σ8.1 3 6) + 1)) fun σw9 => (
              ih32 (σw9, y3_74)
            )
          )
        )
      ) else (
        bnd (fX1_joins y4_74 b2 σ74) fun r5 σ5 => (
          if r5 = 0 then (
            some (0, σ5)
          ) else (
            stp (putI σ5 3 6 ((σ5.1 3 6) + 1)) fun σw6 => (
              ih32 (σw6, 1)
            )
          )
        )
      )
    )
  ) else (
    bnd (fX1_opens y4_74 σ74) fun r14 σ14 => (
      if r14 = 0 then (
        some (0, σ14)
      ) else (
        stp (putI σ14 3 6 ((σ14.1 3 6) + 1)) fun σw15 => (
          ih32 (σw15, y3_74)
        )
      )
    )
  )
def fX1_readPart_L32 (a1 : Int32) (b2 : Nat) (ih32 : Mem × Int32 → Option (Int32 × Mem)) : Mem × Int32 → Option (Int32 × Mem) := fun v => match v with
  | (σ32, y3_32) =>
    if (σ32.1 3 5) ≤ (σ32.1 3 6) then (
      some (0, σ32)
    ) else (
      gd (inB (σ32.1 3 6) 161) (
        if y3_32 = 0 then (
          fX1_readPart_b74 a1 b2 ih32 σ32 y3_32 (rd σ32 5 (σ32.1 3 6))
        ) else (
          if (rd σ32 5 (σ32.1 3 6)) < 0 then (
            fX1_readPart_b74 a1 b2 ih32 σ32 y3_32 (rd σ32 5 (σ32.1 3 6))
          ) else (
            bn1 (fX3_add b2 (rd σ32 5 (σ32.1 3 6)) σ32) fun σ18 => (
              stp (putI σ18 3 6 ((σ18.1 3 6) + 1)) fun σw19 => (
                ih32 (σw19, 0)
              )
            )
          )
        )
      )
    )
def fX1_readPart (a1 : Int32) (b2 : Nat) (σ : Mem) : Option (Int32 × Mem) :=
  bn1 (fX1_isToken a1 σ) fun r1 => (
    if r1 = 0 then (
      some (0, σ)
    ) else (
      stp (putI σ 3 7 0) fun σw2 => (
        stp (putI σw2 3 8 0) fun σw3 => (
          stp (putI σw3 3 6 ((σw3.1 3 6) + 1)) fun σw4 => (
            loopN (fX1_readPart_L32 a1 b2) 1000 (σw4, 1)
          )
        )
      )
    )
  )
set_option maxHeartbeats 4000000 in
set_option maxRecDepth 100000 in
theorem kX1_readPart (l : Launch) (g : GG) (cs : CS) (ad : Nat → Nat) (a1 : Int32) (b2 : Nat) (hb2 : isTx b2) (σ : Mem) : CtI l g cs ad (shC g) mX1_readPart (.code mX1_readPart cX1_readPart 5 (some .boolean)) { frames := 4, cells := 0, slots := 0, locals := 86 } [.ref (ad 3), .int a1, .ref (ad b2)] σ (fX1_readPart a1 b2 σ) := by
  refine ctI_intro (own := "KinInTheHeap$Reader") (by decide +kernel) rfl [some (.ref (ad 3)), some (.int a1), some (.ref (ad b2)), none, none] (Nat.le_of_ble_eq_true rfl) rfl ?_
  intro p e s m args below meth c A C hr hlk
  refine tr_aload_n C (i := 0) dX1_readPart_0 rfl rfl ?_
  refine tr_iload_n C (i := 1) dX1_readPart_1 rfl rfl ?_
  refine tr_cVIP C (av := [.int a1]) (st := []) (kX1_isToken l g cs ad a1 σ) mwX1_isToken w582 rfl rfl ⟨rfl, rfl⟩ ⟨(Nat.le_of_ble_eq_true rfl), (Nat.le_of_ble_eq_true rfl)⟩ rfl rfl (Nat.le_of_ble_eq_true rfl) dX1_readPart_2 (fun r1 hr1 => ?_)
  refine tr_if_ne C (tgt := 10) dX1_readPart_5 (by decide) (fun q24 => ?_) (fun q24 => ?_)
  · refine tr_iconst C (v := 0) dX1_readPart_8 (by decide) ?_
    exact tr_zret C hr hlk rfl dX1_readPart_9
  · refine tr_aload_n C (i := 0) dX1_readPart_10 rfl rfl ?_
    refine tr_iconst C (v := 0) dX1_readPart_11 (by decide) ?_
    refine tr_putI C (k := 7) (ci := 1) (σ' := putI σ 3 7 0) rfl rfl rfl inT1 rfl (by decide) tyX1 tyX1_ok nmX1 rfl rfl w139 dX1_readPart_12 rfl ?_
    refine tr_stp (fun σw2 eσw2 => ?_)
    refine tr_aload_n C (i := 0) dX1_readPart_15 rfl rfl ?_
    refine tr_iconst C (v := 0) dX1_readPart_16 (by decide) ?_
    refine tr_putI C (k := 8) (ci := 1) (σ' := putI σw2 3 8 0) rfl rfl rfl inT1 rfl (by decide) tyX1 tyX1_ok nmX1 rfl rfl w140 dX1_readPart_17 rfl ?_
    refine tr_stp (fun σw3 eσw3 => ?_)
    refine tr_iconst C (v := 1) dX1_readPart_20 (by decide) ?_
    refine tr_istore_n C (i := 3) (lv' := [some (.ref (ad 3)), some (.int a1), some (.ref (ad b2)), some (.int 1), none]) dX1_readPart_21 rfl (by decide) rfl ?_
    refine tr_aload_n C (i := 0) dX1_readPart_22 rfl rfl ?_
    refine tr_dup C dX1_readPart_23 rfl ?_
    refine tr_getI C (k := 6) (ci := 1) rfl rfl rfl inT1 rfl (by decide) w138 dX1_readPart_24 ?_
    refine tr_iconst C (v := 1) dX1_readPart_27 (by decide) ?_
    refine tr_iadd C dX1_readPart_28 ?_
    refine tr_putI C (k := 6) (ci := 1) (σ' := putI σw3 3 6 ((σw3.1 3 6) + 1)) rfl rfl rfl inT1 rfl (by decide) tyX1 tyX1_ok nmX1 rfl rfl w138 dX1_readPart_29 rfl ?_
    refine tr_stp (fun σw4 eσw4 => ?_)
    refine tr_mask [true, false, true, true, false] rfl ?_
    refine tr_loop (b := fX1_readPart_L32 a1 b2) (sg := fun v => v.1) (lw := fun v => [some (.ref (ad 3)), none, some (.ref (ad b2)), some (.int v.2), none]) (sw := fun v => []) (fun ih32 IH32 v => ?_) 1000 (σw4, 1)
    obtain ⟨σ32, y3_32⟩ := v
    refine tr_st (σ' := σ32) (lv' := [some (.ref (ad 3)), none, some (.ref (ad b2)), some (.int y3_32), none]) (st' := []) rfl rfl rfl ?_
    refine tr_aload_n C (i := 0) dX1_readPart_32 rfl rfl ?_
    refine tr_getI C (k := 6) (ci := 1) rfl rfl rfl inT1 rfl (by decide) w138 dX1_readPart_33 ?_
    refine tr_aload_n C (i := 0) dX1_readPart_36 rfl rfl ?_
    refine tr_getI C (k := 5) (ci := 1) rfl rfl rfl inT1 rfl (by decide) w137 dX1_readPart_37 ?_
    refine tr_icmp_ge C (tgt := 146) dX1_readPart_40 (by decide) (fun q23 => ?_) (fun q23 => ?_)
    · refine tr_iconst C (v := 0) dX1_readPart_146 (by decide) ?_
      exact tr_zret C hr hlk rfl dX1_readPart_147
    · refine tr_aload_n C (i := 0) dX1_readPart_43 rfl rfl ?_
      refine tr_getR C (k := 2) (ci := 1) rfl rfl rfl inT1 rfl (by decide) w134 dX1_readPart_44 ?_
      refine tr_aload_n C (i := 0) dX1_readPart_47 rfl rfl ?_
      refine tr_getI C (k := 6) (ci := 1) rfl rfl rfl inT1 rfl (by decide) w138 dX1_readPart_48 ?_
      refine tr_iald C (n := 161) rfl dX1_readPart_51 (fun h22 => ?_)
      refine tr_istore C (i := 4) (lv' := [some (.ref (ad 3)), none, some (.ref (ad b2)), some (.int y3_32), some (.int (rd σ32 5 (σ32.1 3 6)))]) dX1_readPart_52 (by decide) rfl ?_
      refine tr_iload_n C (i := 3) dX1_readPart_54 rfl rfl ?_
      have B74 : ∀ (σ74 : Mem) (y3_74 : Int32) (y4_74 : Int32), Tr p l e { frames := 4, cells := 0, slots := 0, locals := 86 } s m args below meth c g ad (shC g) A 5 (QI g ad (shC g) A below args s) (fX1_readPart_b74 a1 b2 ih32 σ74 y3_74 y4_74) σ74 74 [some (.ref (ad 3)), none, some (.ref (ad b2)), some (.int y3_74), some (.int y4_74)] [] := by
        intro σ74 y3_74 y4_74
        refine tr_iload_n C (i := 3) dX1_readPart_74 rfl rfl ?_
        refine tr_if_eq C (tgt := 89) dX1_readPart_75 (by decide) (fun q17 => ?_) (fun q17 => ?_)
        · refine tr_iload C (i := 4) dX1_readPart_89 rfl ?_
          refine tr_bipush C (v := -12) dX1_readPart_91 (by decide) ?_
          refine tr_icmp_ne C (tgt := 102) dX1_readPart_93 (by decide) (fun q13 => ?_) (fun q13 => ?_)
          · refine tr_aload_n C (i := 0) dX1_readPart_96 rfl rfl ?_
            refine tr_aload_n C (i := 2) dX1_readPart_97 rfl rfl ?_
            refine tr_cVI C (av := [.ref (ad b2)]) (st := []) (kX1_ends l g cs ad b2 hb2 σ74) mwX1_ends w602 rfl rfl ⟨rfl, rfl⟩ ⟨(Nat.le_of_ble_eq_true rfl), (Nat.le_of_ble_eq_true rfl)⟩ rfl rfl (Nat.le_of_ble_eq_true rfl) dX1_readPart_98 (fun r12 σ12 hr12 => ?_)
            exact tr_zretG C hr hlk dX1_readPart_101
          · refine tr_iload C (i := 4) dX1_readPart_102 rfl ?_
            refine tr_bipush C (v := -11) dX1_readPart_104 (by decide) ?_
            refine tr_icmp_ne C (tgt := 119) dX1_readPart_106 (by decide) (fun q11 => ?_) (fun q11 => ?_)
            · refine tr_aload_n C (i := 0) dX1_readPart_109 rfl rfl ?_
              refine tr_aload_n C (i := 2) dX1_readPart_110 rfl rfl ?_
              refine tr_cVI C (av := [.ref (ad b2)]) (st := []) (kX1_closes l g cs ad b2 hb2 σ74) mwX1_closes w611 rfl rfl ⟨rfl, rfl⟩ ⟨(Nat.le_of_ble_eq_true rfl), (Nat.le_of_ble_eq_true rfl)⟩ rfl rfl (Nat.le_of_ble_eq_true rfl) dX1_readPart_111 (fun r8 σ8 hr8 => ?_)
              refine tr_if_ne C (tgt := 133) dX1_readPart_114 (by decide) (fun q10 => ?_) (fun q10 => ?_)
              · refine tr_iconst C (v := 0) dX1_readPart_117 (by decide) ?_
                exact tr_zret C hr hlk rfl dX1_readPart_118
              · refine tr_aload_n C (i := 0) dX1_readPart_133 rfl rfl ?_
                refine tr_dup C dX1_readPart_134 rfl ?_
                refine tr_getI C (k := 6) (ci := 1) rfl rfl rfl inT1 rfl (by decide) w138 dX1_readPart_135 ?_
                refine tr_iconst C (v := 1) dX1_readPart_138 (by decide) ?_
                refine tr_iadd C dX1_readPart_139 ?_
                refine tr_putI C (k := 6) (ci := 1) (σ' := putI σ8 3 6 ((σ8.1 3 6) + 1)) rfl rfl rfl inT1 rfl (by decide) tyX1 tyX1_ok nmX1 rfl rfl w138 dX1_readPart_140 rfl ?_
                refine tr_stp (fun σw9 eσw9 => ?_)
                refine tr_goto C (tgt := 32) dX1_readPart_143 (by decide) ?_
                refine tr_mask [true, false, true, true, false] rfl ?_
                exact IH32 (σw9, y3_74)
            · refine tr_aload_n C (i := 0) dX1_readPart_119 rfl rfl ?_
              refine tr_iload C (i := 4) dX1_readPart_120 rfl ?_
              refine tr_aload_n C (i := 2) dX1_readPart_122 rfl rfl ?_
              refine tr_cVI C (av := [.int y4_74, .ref (ad b2)]) (st := []) (kX1_joins l g cs ad y4_74 b2 hb2 σ74) mwX1_joins w615 rfl rfl ⟨rfl, rfl⟩ ⟨(Nat.le_of_ble_eq_true rfl), (Nat.le_of_ble_eq_true rfl)⟩ rfl rfl (Nat.le_of_ble_eq_true rfl) dX1_readPart_123 (fun r5 σ5 hr5 => ?_)
              refine tr_if_ne C (tgt := 131) dX1_readPart_126 (by decide) (fun q7 => ?_) (fun q7 => ?_)
              · refine tr_iconst C (v := 0) dX1_readPart_129 (by decide) ?_
                exact tr_zret C hr hlk rfl dX1_readPart_130
              · refine tr_iconst C (v := 1) dX1_readPart_131 (by decide) ?_
                refine tr_istore_n C (i := 3) (lv' := [some (.ref (ad 3)), none, some (.ref (ad b2)), some (.int 1), some (.int y4_74)]) dX1_readPart_132 rfl (by decide) rfl ?_
                refine tr_aload_n C (i := 0) dX1_readPart_133 rfl rfl ?_
                refine tr_dup C dX1_readPart_134 rfl ?_
                refine tr_getI C (k := 6) (ci := 1) rfl rfl rfl inT1 rfl (by decide) w138 dX1_readPart_135 ?_
                refine tr_iconst C (v := 1) dX1_readPart_138 (by decide) ?_
                refine tr_iadd C dX1_readPart_139 ?_
                refine tr_putI C (k := 6) (ci := 1) (σ' := putI σ5 3 6 ((σ5.1 3 6) + 1)) rfl rfl rfl inT1 rfl (by decide) tyX1 tyX1_ok nmX1 rfl rfl w138 dX1_readPart_140 rfl ?_
                refine tr_stp (fun σw6 eσw6 => ?_)
                refine tr_goto C (tgt := 32) dX1_readPart_143 (by decide) ?_
                refine tr_mask [true, false, true, true, false] rfl ?_
                exact IH32 (σw6, 1)
        · refine tr_aload_n C (i := 0) dX1_readPart_78 rfl rfl ?_
          refine tr_iload C (i := 4) dX1_readPart_79 rfl ?_
          refine tr_cVI C (av := [.int y4_74]) (st := []) (kX1_opens l g cs ad y4_74 σ74) mwX1_opens w587 rfl rfl ⟨rfl, rfl⟩ ⟨(Nat.le_of_ble_eq_true rfl), (Nat.le_of_ble_eq_true rfl)⟩ rfl rfl (Nat.le_of_ble_eq_true rfl) dX1_readPart_81 (fun r14 σ14 hr14 => ?_)
          refine tr_if_ne C (tgt := 133) dX1_readPart_84 (by decide) (fun q16 => ?_) (fun q16 => ?_)
          · refine tr_iconst C (v := 0) dX1_readPart_87 (by decide) ?_
            exact tr_zret C hr hlk rfl dX1_readPart_88
          · refine tr_aload_n C (i := 0) dX1_readPart_133 rfl rfl ?_
            refine tr_dup C dX1_readPart_134 rfl ?_
            refine tr_getI C (k := 6) (ci := 1) rfl rfl rfl inT1 rfl (by decide) w138 dX1_readPart_135 ?_
            refine tr_iconst C (v := 1) dX1_readPart_138 (by decide) ?_
            refine tr_iadd C dX1_readPart_139 ?_
            refine tr_putI C (k := 6) (ci := 1) (σ' := putI σ14 3 6 ((σ14.1 3 6) + 1)) rfl rfl rfl inT1 rfl (by decide) tyX1 tyX1_ok nmX1 rfl rfl w138 dX1_readPart_140 rfl ?_
            refine tr_stp (fun σw15 eσw15 => ?_)
            refine tr_goto C (tgt := 32) dX1_readPart_143 (by decide) ?_
            refine tr_mask [true, false, true, true, false] rfl ?_
            exact IH32 (σw15, y3_74)
      refine tr_if_eq C (tgt := 74) dX1_readPart_55 (by decide) (fun q21 => ?_) (fun q21 => ?_)
      · exact B74 σ32 y3_32 (rd σ32 5 (σ32.1 3 6))
      · refine tr_iload C (i := 4) dX1_readPart_58 rfl ?_
        refine tr_if_lt C (tgt := 74) dX1_readPart_60 (by decide) (fun q20 => ?_) (fun q20 => ?_)
        · exact B74 σ32 y3_32 (rd σ32 5 (σ32.1 3 6))
        · refine tr_aload_n C (i := 2) dX1_readPart_63 rfl rfl ?_
          refine tr_iload C (i := 4) dX1_readPart_64 rfl ?_
          refine tr_cVV C (av := [.int (rd σ32 5 (σ32.1 3 6))]) (st := []) (kX3_add l g cs ad b2 (rd σ32 5 (σ32.1 3 6)) hb2 σ32) mwX3_add w586 (tx_0 hb2) rfl ⟨rfl, rfl⟩ ⟨(Nat.le_of_ble_eq_true rfl), (Nat.le_of_ble_eq_true rfl)⟩ rfl rfl (Nat.le_of_ble_eq_true rfl) dX1_readPart_66 (fun σ18 hr18 => ?_)
          refine tr_iconst C (v := 0) dX1_readPart_69 (by decide) ?_
          refine tr_istore_n C (i := 3) (lv' := [some (.ref (ad 3)), none, some (.ref (ad b2)), some (.int 0), some (.int (rd σ32 5 (σ32.1 3 6)))]) dX1_readPart_70 rfl (by decide) rfl ?_
          refine tr_goto C (tgt := 133) dX1_readPart_71 (by decide) ?_
          refine tr_aload_n C (i := 0) dX1_readPart_133 rfl rfl ?_
          refine tr_dup C dX1_readPart_134 rfl ?_
          refine tr_getI C (k := 6) (ci := 1) rfl rfl rfl inT1 rfl (by decide) w138 dX1_readPart_135 ?_
          refine tr_iconst C (v := 1) dX1_readPart_138 (by decide) ?_
          refine tr_iadd C dX1_readPart_139 ?_
          refine tr_putI C (k := 6) (ci := 1) (σ' := putI σ18 3 6 ((σ18.1 3 6) + 1)) rfl rfl rfl inT1 rfl (by decide) tyX1 tyX1_ok nmX1 rfl rfl w138 dX1_readPart_140 rfl ?_
          refine tr_stp (fun σw19 eσw19 => ?_)
          refine tr_goto C (tgt := 32) dX1_readPart_143 (by decide) ?_
          refine tr_mask [true, false, true, true, false] rfl ?_
          exact IH32 (σw19, 0)
def fX1_placeOfToken (σ : Mem) : Option (Int32) :=
  if (σ.1 3 5) ≤ (σ.1 3 6) then (
    some (σ.1 3 0)
  ) else (
    gd (inB (σ.1 3 6) 161) (
      some (rd σ 6 (σ.1 3 6))
    )
  )
set_option maxHeartbeats 4000000 in
set_option maxRecDepth 100000 in
theorem kX1_placeOfToken (l : Launch) (g : GG) (cs : CS) (ad : Nat → Nat) (σ : Mem) : CtI l g cs ad (shC g) mX1_placeOfToken (.code mX1_placeOfToken cX1_placeOfToken 1 (some .int)) { frames := 0, cells := 0, slots := 0, locals := 0 } [.ref (ad 3)] σ (pur (fX1_placeOfToken σ) σ) := by
  refine ctIP_intro (own := "KinInTheHeap$Reader") (by decide +kernel) rfl [some (.ref (ad 3))] (Nat.le_of_ble_eq_true rfl) rfl ?_
  intro p e s m args below meth c A C hr hlk
  refine tr_aload_n C (i := 0) dX1_placeOfToken_0 rfl rfl ?_
  refine tr_getI C (k := 6) (ci := 1) rfl rfl rfl inT1 rfl (by decide) w138 dX1_placeOfToken_1 ?_
  refine tr_aload_n C (i := 0) dX1_placeOfToken_4 rfl rfl ?_
  refine tr_getI C (k := 5) (ci := 1) rfl rfl rfl inT1 rfl (by decide) w137 dX1_placeOfToken_5 ?_
  refine tr_icmp_ge C (tgt := 23) dX1_placeOfToken_8 (by decide) (fun q2 => ?_) (fun q2 => ?_)
  · refine tr_aload_n C (i := 0) dX1_placeOfToken_23 rfl rfl ?_
    refine tr_getI C (k := 0) (ci := 1) rfl rfl rfl inT1 rfl (by decide) w131 dX1_placeOfToken_24 ?_
    exact tr_iretP C hr hlk dX1_placeOfToken_27
  · refine tr_aload_n C (i := 0) dX1_placeOfToken_11 rfl rfl ?_
    refine tr_getR C (k := 3) (ci := 1) rfl rfl rfl inT1 rfl (by decide) w135 dX1_placeOfToken_12 ?_
    refine tr_aload_n C (i := 0) dX1_placeOfToken_15 rfl rfl ?_
    refine tr_getI C (k := 6) (ci := 1) rfl rfl rfl inT1 rfl (by decide) w138 dX1_placeOfToken_16 ?_
    refine tr_iald C (n := 161) rfl dX1_placeOfToken_19 (fun h1 => ?_)
    refine tr_goto C (tgt := 27) dX1_placeOfToken_20 (by decide) ?_
    exact tr_iretP C hr hlk dX1_placeOfToken_27
def fX1_read_b43 (b1 : Nat) (σ43 : Mem) : Option (Int32 × Mem) :=
  bn1 (fX1_isToken (-1) σ43) fun r4 => (
    if r4 = 0 then (
      bn1 (fX1_placeOfToken σ43) fun r5 => (
        some (r5, σ43)
      )
    ) else (
      some (-1, σ43)
    )
  )
def fX1_read_L15 (b1 : Nat) (ih15 : Mem × Int32 → Option (Int32 × Mem)) : Mem × Int32 → Option (Int32 × Mem) := fun v => match v with
  | (σ15, y2_15) =>
    if 3 ≤ y2_15 then (
      fX1_read_b43 b1 σ15
    ) else (
      bnd (fX1_readPart ((-3) - y2_15) b1 σ15) fun r7 σ7 => (
        if r7 = 0 then (
          bn1 (fX1_placeOfToken σ7) fun r8 => (
            some (r8, σ7)
          )
        ) else (
          ih15 (σ7, y2_15 + 1)
        )
      )
    )
def fX1_read (b1 : Nat) (σ : Mem) : Option (Int32 × Mem) :=
  bn1 (fX1_findTokens σ) fun σ1 => (
    bn1 (fX3_clear b1 σ1) fun σ2 => (
      stp (putI σ2 3 6 0) fun σw3 => (
        loopN (fX1_read_L15 b1) 1000 (σw3, 0)
      )
    )
  )
set_option maxHeartbeats 4000000 in
set_option maxRecDepth 100000 in
theorem kX1_read (l : Launch) (g : GG) (cs : CS) (ad : Nat → Nat) (b1 : Nat) (hb1 : isTx b1) (σ : Mem) : CtI l g cs ad (shC g) mX1_read (.code mX1_read cX1_read 3 (some .int)) { frames := 8, cells := 0, slots := 0, locals := 178 } [.ref (ad 3), .ref (ad b1)] σ (fX1_read b1 σ) := by
  refine ctI_intro (own := "KinInTheHeap$Reader") (by decide +kernel) rfl [some (.ref (ad 3)), some (.ref (ad b1)), none] (Nat.le_of_ble_eq_true rfl) rfl ?_
  intro p e s m args below meth c A C hr hlk
  refine tr_aload_n C (i := 0) dX1_read_0 rfl rfl ?_
  refine tr_cVV C (av := []) (st := []) (kX1_findTokens l g cs ad σ) mwX1_findTokens w423 rfl rfl ⟨rfl, rfl⟩ ⟨(Nat.le_of_ble_eq_true rfl), (Nat.le_of_ble_eq_true rfl)⟩ rfl rfl (Nat.le_of_ble_eq_true rfl) dX1_read_1 (fun σ1 hr1 => ?_)
  refine tr_aload_n C (i := 1) dX1_read_4 rfl rfl ?_
  refine tr_cVV C (av := []) (st := []) (kX3_clear l g cs ad b1 hb1 σ1) mwX3_clear w577 (tx_0 hb1) rfl ⟨rfl, rfl⟩ ⟨(Nat.le_of_ble_eq_true rfl), (Nat.le_of_ble_eq_true rfl)⟩ rfl rfl (Nat.le_of_ble_eq_true rfl) dX1_read_5 (fun σ2 hr2 => ?_)
  refine tr_aload_n C (i := 0) dX1_read_8 rfl rfl ?_
  refine tr_iconst C (v := 0) dX1_read_9 (by decide) ?_
  refine tr_putI C (k := 6) (ci := 1) (σ' := putI σ2 3 6 0) rfl rfl rfl inT1 rfl (by decide) tyX1 tyX1_ok nmX1 rfl rfl w138 dX1_read_10 rfl ?_
  refine tr_stp (fun σw3 eσw3 => ?_)
  refine tr_iconst C (v := 0) dX1_read_13 (by decide) ?_
  refine tr_istore_n C (i := 2) (lv' := [some (.ref (ad 3)), some (.ref (ad b1)), some (.int 0)]) dX1_read_14 rfl (by decide) rfl ?_
  refine tr_loop (b := fX1_read_L15 b1) (sg := fun v => v.1) (lw := fun v => [some (.ref (ad 3)), some (.ref (ad b1)), some (.int v.2)]) (sw := fun v => []) (fun ih15 IH15 v => ?_) 1000 (σw3, 0)
  obtain ⟨σ15, y2_15⟩ := v
  refine tr_st (σ' := σ15) (lv' := [some (.ref (ad 3)), some (.ref (ad b1)), some (.int y2_15)]) (st' := []) rfl rfl rfl ?_
  refine tr_iload_n C (i := 2) dX1_read_15 rfl rfl ?_
  refine tr_iconst C (v := 3) dX1_read_16 (by decide) ?_
  have B43 : ∀ (σ43 : Mem), Tr p l e { frames := 8, cells := 0, slots := 0, locals := 178 } s m args below meth c g ad (shC g) A 3 (QI g ad (shC g) A below args s) (fX1_read_b43 b1 σ43) σ43 43 [some (.ref (ad 3)), none, none] [] := by
    intro σ43
    refine tr_aload_n C (i := 0) dX1_read_43 rfl rfl ?_
    refine tr_iconst C (v := -1) dX1_read_44 (by decide) ?_
    refine tr_cVIP C (av := [.int (-1)]) (st := []) (kX1_isToken l g cs ad (-1) σ43) mwX1_isToken w582 rfl rfl ⟨rfl, rfl⟩ ⟨(Nat.le_of_ble_eq_true rfl), (Nat.le_of_ble_eq_true rfl)⟩ rfl rfl (Nat.le_of_ble_eq_true rfl) dX1_read_45 (fun r4 hr4 => ?_)
    refine tr_if_eq C (tgt := 55) dX1_read_48 (by decide) (fun q6 => ?_) (fun q6 => ?_)
    · refine tr_aload_n C (i := 0) dX1_read_55 rfl rfl ?_
      refine tr_cVIP C (av := []) (st := []) (kX1_placeOfToken l g cs ad σ43) mwX1_placeOfToken w619 rfl rfl ⟨rfl, rfl⟩ ⟨(Nat.le_of_ble_eq_true rfl), (Nat.le_of_ble_eq_true rfl)⟩ rfl rfl (Nat.le_of_ble_eq_true rfl) dX1_read_56 (fun r5 hr5 => ?_)
      exact tr_iret C hr hlk dX1_read_59
    · refine tr_iconst C (v := -1) dX1_read_51 (by decide) ?_
      refine tr_goto C (tgt := 59) dX1_read_52 (by decide) ?_
      exact tr_iret C hr hlk dX1_read_59
  refine tr_icmp_ge C (tgt := 43) dX1_read_17 (by decide) (fun q10 => ?_) (fun q10 => ?_)
  · refine tr_mask [true, false, false] rfl ?_
    exact B43 σ15
  · refine tr_aload_n C (i := 0) dX1_read_20 rfl rfl ?_
    refine tr_bipush C (v := -3) dX1_read_21 (by decide) ?_
    refine tr_iload_n C (i := 2) dX1_read_23 rfl rfl ?_
    refine tr_isub C dX1_read_24 ?_
    refine tr_aload_n C (i := 1) dX1_read_25 rfl rfl ?_
    refine tr_cVI C (av := [.int ((-3) - y2_15), .ref (ad b1)]) (st := []) (kX1_readPart l g cs ad ((-3) - y2_15) b1 hb1 σ15) mwX1_readPart w578 rfl rfl ⟨rfl, rfl⟩ ⟨(Nat.le_of_ble_eq_true rfl), (Nat.le_of_ble_eq_true rfl)⟩ rfl rfl (Nat.le_of_ble_eq_true rfl) dX1_read_26 (fun r7 σ7 hr7 => ?_)
    refine tr_if_ne C (tgt := 37) dX1_read_29 (by decide) (fun q9 => ?_) (fun q9 => ?_)
    · refine tr_aload_n C (i := 0) dX1_read_32 rfl rfl ?_
      refine tr_cVIP C (av := []) (st := []) (kX1_placeOfToken l g cs ad σ7) mwX1_placeOfToken w619 rfl rfl ⟨rfl, rfl⟩ ⟨(Nat.le_of_ble_eq_true rfl), (Nat.le_of_ble_eq_true rfl)⟩ rfl rfl (Nat.le_of_ble_eq_true rfl) dX1_read_33 (fun r8 hr8 => ?_)
      exact tr_iret C hr hlk dX1_read_36
    · refine tr_iinc C (i := 2) (d := 1) (lv' := [some (.ref (ad 3)), some (.ref (ad b1)), some (.int (y2_15 + 1))]) dX1_read_37 rfl (by decide) (by decide) rfl ?_
      refine tr_goto C (tgt := 15) dX1_read_40 (by decide) ?_
      exact IH15 (σ7, y2_15 + 1)
def fX2_isMissing (b : Nat) (σ : Mem) : Option (Int32) :=
  if (σ.1 b 1) = (-1) then (
    some 1
  ) else (
    some 0
  )
set_option maxHeartbeats 4000000 in
set_option maxRecDepth 100000 in
theorem kX2_isMissing (l : Launch) (g : GG) (cs : CS) (ad : Nat → Nat) (b : Nat) (hb : isSt b) (σ : Mem) : CtI l g cs ad (shC g) mX2_isMissing (.code mX2_isMissing cX2_isMissing 1 (some .boolean)) { frames := 0, cells := 0, slots := 0, locals := 0 } [.ref (ad b)] σ (pur (fX2_isMissing b σ) σ) := by
  refine ctIP_intro (own := "KinInTheHeap$Sheet") (by decide +kernel) rfl [some (.ref (ad b))] (Nat.le_of_ble_eq_true rfl) rfl ?_
  intro p e s m args below meth c A C hr hlk
  refine tr_aload_n C (i := 0) dX2_isMissing_0 rfl rfl ?_
  refine tr_getI C (k := 1) (ci := 2) (st_0 hb) rfl rfl inT2 rfl (by decide) w189 dX2_isMissing_1 ?_
  refine tr_iconst C (v := -1) dX2_isMissing_4 (by decide) ?_
  refine tr_icmp_ne C (tgt := 12) dX2_isMissing_5 (by decide) (fun q1 => ?_) (fun q1 => ?_)
  · refine tr_iconst C (v := 1) dX2_isMissing_8 (by decide) ?_
    refine tr_goto C (tgt := 13) dX2_isMissing_9 (by decide) ?_
    exact tr_zretP C hr hlk rfl dX2_isMissing_13
  · refine tr_iconst C (v := 0) dX2_isMissing_12 (by decide) ?_
    exact tr_zretP C hr hlk rfl dX2_isMissing_13
def fX2_make_b21 (b : Nat) (a1 : Int32) (a2 : Int32) (σ21 : Mem) : Option (Mem) :=
  stp (putI σ21 b 1 a1) fun σw1 => (
    stp (putI σw1 b 2 (if 0 < (if a2 < 40 then a2 else 40) then (if a2 < 40 then a2 else 40) else 0)) fun σw2 => (
      some σw2
    )
  )
def fX2_make_L2 (b : Nat) (a1 : Int32) (a2 : Int32) (ih2 : Mem × Int32 → Option (Mem)) : Mem × Int32 → Option (Mem) := fun v => match v with
  | (σ2, y3_2) =>
    if 40 ≤ y3_2 then (
      fX2_make_b21 b a1 a2 σ2
    ) else (
      gd (inB y3_2 40) (stp (wr σ2 (b + 1) y3_2 0) fun σw3 => (
        ih2 (σw3, y3_2 + 1)
      ))
    )
def fX2_make (b : Nat) (a1 : Int32) (a2 : Int32) (σ : Mem) : Option (Mem) :=
  loopN (fX2_make_L2 b a1 a2) 1000 (σ, 0)
set_option maxHeartbeats 4000000 in
set_option maxRecDepth 100000 in
theorem kX2_make (l : Launch) (g : GG) (cs : CS) (ad : Nat → Nat) (b : Nat) (a1 : Int32) (a2 : Int32) (hb : isSt b) (σ : Mem) : CtV l g cs ad (shC g) mX2_make (.code mX2_make cX2_make 4 none) { frames := 1, cells := 0, slots := 0, locals := 21 } [.ref (ad b), .int a1, .int a2] σ (fX2_make b a1 a2 σ) := by
  refine ctV_intro (own := "KinInTheHeap$Sheet") (by decide +kernel) rfl [some (.ref (ad b)), some (.int a1), some (.int a2), none] (Nat.le_of_ble_eq_true rfl) rfl ?_
  intro p e s m args below meth c A C hr hlk
  refine tr_iconst C (v := 0) dX2_make_0 (by decide) ?_
  refine tr_istore_n C (i := 3) (lv' := [some (.ref (ad b)), some (.int a1), some (.int a2), some (.int 0)]) dX2_make_1 rfl (by decide) rfl ?_
  refine tr_loop (b := fX2_make_L2 b a1 a2) (sg := fun v => v.1) (lw := fun v => [some (.ref (ad b)), some (.int a1), some (.int a2), some (.int v.2)]) (sw := fun v => []) (fun ih2 IH2 v => ?_) 1000 (σ, 0)
  obtain ⟨σ2, y3_2⟩ := v
  refine tr_st (σ' := σ2) (lv' := [some (.ref (ad b)), some (.int a1), some (.int a2), some (.int y3_2)]) (st' := []) rfl rfl rfl ?_
  refine tr_iload_n C (i := 3) dX2_make_2 rfl rfl ?_
  refine tr_bipush C (v := 40) dX2_make_3 (by decide) ?_
  have B21 : ∀ (σ21 : Mem), Tr p l e { frames := 1, cells := 0, slots := 0, locals := 21 } s m args below meth c g ad (shC g) A 4 (QV g ad (shC g) A below args s) (fX2_make_b21 b a1 a2 σ21) σ21 21 [some (.ref (ad b)), some (.int a1), some (.int a2), none] [] := by
    intro σ21
    refine tr_aload_n C (i := 0) dX2_make_21 rfl rfl ?_
    refine tr_iload_n C (i := 1) dX2_make_22 rfl rfl ?_
    refine tr_putI C (k := 1) (ci := 2) (σ' := putI σ21 b 1 a1) (st_0 hb) rfl rfl inT2 rfl (by decide) tyX2 tyX2_ok nmX2 rfl rfl w189 dX2_make_23 rfl ?_
    refine tr_stp (fun σw1 eσw1 => ?_)
    refine tr_aload_n C (i := 0) dX2_make_26 rfl rfl ?_
    refine tr_iconst C (v := 0) dX2_make_27 (by decide) ?_
    refine tr_bipush C (v := 40) dX2_make_28 (by decide) ?_
    refine tr_iload_n C (i := 2) dX2_make_30 rfl rfl ?_
    refine tr_mmin C w872 (Nat.le_of_ble_eq_true rfl) (Nat.le_of_ble_eq_true rfl) dX2_make_31 ?_
    refine tr_mmax C w873 (Nat.le_of_ble_eq_true rfl) (Nat.le_of_ble_eq_true rfl) dX2_make_34 ?_
    refine tr_putI C (k := 2) (ci := 2) (σ' := putI σw1 b 2 (if 0 < (if a2 < 40 then a2 else 40) then (if a2 < 40 then a2 else 40) else 0)) (st_0 hb) rfl rfl inT2 rfl (by decide) tyX2 tyX2_ok nmX2 rfl rfl w191 dX2_make_37 rfl ?_
    refine tr_stp (fun σw2 eσw2 => ?_)
    exact tr_vret C hr hlk dX2_make_40
  refine tr_icmp_ge C (tgt := 21) dX2_make_5 (by decide) (fun q5 => ?_) (fun q5 => ?_)
  · refine tr_mask [true, true, true, false] rfl ?_
    exact B21 σ2
  · refine tr_aload_n C (i := 0) dX2_make_8 rfl rfl ?_
    refine tr_getR C (k := 0) (ci := 2) (st_0 hb) rfl rfl inT2 rfl (by decide) w187 dX2_make_9 ?_
    refine tr_iload_n C (i := 3) dX2_make_12 rfl rfl ?_
    refine tr_iconst C (v := 0) dX2_make_13 (by decide) ?_
    refine tr_iast C (n := 40) (σ' := wr σ2 (b + 1) y3_2 0) (st_1 hb) dX2_make_14 rfl (fun h4 => ?_)
    refine tr_stp (fun σw3 eσw3 => ?_)
    refine tr_iinc C (i := 3) (d := 1) (lv' := [some (.ref (ad b)), some (.int a1), some (.int a2), some (.int (y3_2 + 1))]) dX2_make_15 rfl (by decide) (by decide) rfl ?_
    refine tr_goto C (tgt := 2) dX2_make_18 (by decide) ?_
    exact IH2 (σw3, y3_2 + 1)
def fX2_holds (b : Nat) (a1 : Int32) (a2 : Int32) (σ : Mem) : Option (Int32) :=
  if a1 < 0 then (
    some 0
  ) else (
    if a2 < 0 then (
      some 0
    ) else (
      if (σ.1 b 2) < a2 then (
        some 0
      ) else (
        if ((σ.1 b 2) - a2) < a1 then (
          some 0
        ) else (
          some 1
        )
      )
    )
  )
set_option maxHeartbeats 4000000 in
set_option maxRecDepth 100000 in
theorem kX2_holds (l : Launch) (g : GG) (cs : CS) (ad : Nat → Nat) (b : Nat) (a1 : Int32) (a2 : Int32) (hb : isSt b) (σ : Mem) : CtI l g cs ad (shC g) mX2_holds (.code mX2_holds cX2_holds 3 (some .boolean)) { frames := 0, cells := 0, slots := 0, locals := 0 } [.ref (ad b), .int a1, .int a2] σ (pur (fX2_holds b a1 a2 σ) σ) := by
  refine ctIP_intro (own := "KinInTheHeap$Sheet") (by decide +kernel) rfl [some (.ref (ad b)), some (.int a1), some (.int a2)] (Nat.le_of_ble_eq_true rfl) rfl ?_
  intro p e s m args below meth c A C hr hlk
  refine tr_iload_n C (i := 1) dX2_holds_0 rfl rfl ?_
  refine tr_if_lt C (tgt := 30) dX2_holds_1 (by decide) (fun q4 => ?_) (fun q4 => ?_)
  · refine tr_iconst C (v := 0) dX2_holds_30 (by decide) ?_
    exact tr_zretP C hr hlk rfl dX2_holds_31
  · refine tr_iload_n C (i := 2) dX2_holds_4 rfl rfl ?_
    refine tr_if_lt C (tgt := 30) dX2_holds_5 (by decide) (fun q3 => ?_) (fun q3 => ?_)
    · refine tr_iconst C (v := 0) dX2_holds_30 (by decide) ?_
      exact tr_zretP C hr hlk rfl dX2_holds_31
    · refine tr_iload_n C (i := 2) dX2_holds_8 rfl rfl ?_
      refine tr_aload_n C (i := 0) dX2_holds_9 rfl rfl ?_
      refine tr_getI C (k := 2) (ci := 2) (st_0 hb) rfl rfl inT2 rfl (by decide) w191 dX2_holds_10 ?_
      refine tr_icmp_gt C (tgt := 30) dX2_holds_13 (by decide) (fun q2 => ?_) (fun q2 => ?_)
      · refine tr_iconst C (v := 0) dX2_holds_30 (by decide) ?_
        exact tr_zretP C hr hlk rfl dX2_holds_31
      · refine tr_iload_n C (i := 1) dX2_holds_16 rfl rfl ?_
        refine tr_aload_n C (i := 0) dX2_holds_17 rfl rfl ?_
        refine tr_getI C (k := 2) (ci := 2) (st_0 hb) rfl rfl inT2 rfl (by decide) w191 dX2_holds_18 ?_
        refine tr_iload_n C (i := 2) dX2_holds_21 rfl rfl ?_
        refine tr_isub C dX2_holds_22 ?_
        refine tr_icmp_gt C (tgt := 30) dX2_holds_23 (by decide) (fun q1 => ?_) (fun q1 => ?_)
        · refine tr_iconst C (v := 0) dX2_holds_30 (by decide) ?_
          exact tr_zretP C hr hlk rfl dX2_holds_31
        · refine tr_iconst C (v := 1) dX2_holds_26 (by decide) ?_
          refine tr_goto C (tgt := 31) dX2_holds_27 (by decide) ?_
          exact tr_zretP C hr hlk rfl dX2_holds_31
def fX2_put (b : Nat) (a1 : Int32) (a2 : Int32) (σ : Mem) : Option (Int32 × Mem) :=
  if a1 < 0 then (
    some (0, σ)
  ) else (
    if a1 < (σ.1 b 2) then (
      if (σ.1 b 1) = 0 then (
        gd (inB a1 40) (stp (wr σ (b + 1) a1 a2.toInt8.toInt32) fun σw6 => (
          some (1, σw6)
        ))
      ) else (
        if (σ.1 b 1) = 1 then (
          gd (inB a1 40) (stp (wr σ (b + 1) a1 a2.toInt16.toInt32) fun σw3 => (
            some (1, σw3)
          ))
        ) else (
          gd (inB a1 40) (stp (wr σ (b + 1) a1 a2) fun σw1 => (
            some (1, σw1)
          ))
        )
      )
    ) else (
      some (0, σ)
    )
  )
set_option maxHeartbeats 4000000 in
set_option maxRecDepth 100000 in
theorem kX2_put (l : Launch) (g : GG) (cs : CS) (ad : Nat → Nat) (b : Nat) (a1 : Int32) (a2 : Int32) (hb : isSt b) (σ : Mem) : CtI l g cs ad (shC g) mX2_put (.code mX2_put cX2_put 3 (some .boolean)) { frames := 0, cells := 0, slots := 0, locals := 0 } [.ref (ad b), .int a1, .int a2] σ (fX2_put b a1 a2 σ) := by
  refine ctI_intro (own := "KinInTheHeap$Sheet") (by decide +kernel) rfl [some (.ref (ad b)), some (.int a1), some (.int a2)] (Nat.le_of_ble_eq_true rfl) rfl ?_
  intro p e s m args below meth c A C hr hlk
  refine tr_iload_n C (i := 1) dX2_put_0 rfl rfl ?_
  refine tr_if_lt C (tgt := 12) dX2_put_1 (by decide) (fun q10 => ?_) (fun q10 => ?_)
  · refine tr_iconst C (v := 0) dX2_put_12 (by decide) ?_
    exact tr_zret C hr hlk rfl dX2_put_13
  · refine tr_iload_n C (i := 1) dX2_put_4 rfl rfl ?_
    refine tr_aload_n C (i := 0) dX2_put_5 rfl rfl ?_
    refine tr_getI C (k := 2) (ci := 2) (st_0 hb) rfl rfl inT2 rfl (by decide) w191 dX2_put_6 ?_
    refine tr_icmp_lt C (tgt := 14) dX2_put_9 (by decide) (fun q9 => ?_) (fun q9 => ?_)
    · refine tr_aload_n C (i := 0) dX2_put_14 rfl rfl ?_
      refine tr_getR C (k := 0) (ci := 2) (st_0 hb) rfl rfl inT2 rfl (by decide) w187 dX2_put_15 ?_
      refine tr_iload_n C (i := 1) dX2_put_18 rfl rfl ?_
      refine tr_aload_n C (i := 0) dX2_put_19 rfl rfl ?_
      refine tr_getI C (k := 1) (ci := 2) (st_0 hb) rfl rfl inT2 rfl (by decide) w189 dX2_put_20 ?_
      refine tr_if_ne C (tgt := 31) dX2_put_23 (by decide) (fun q8 => ?_) (fun q8 => ?_)
      · refine tr_iload_n C (i := 2) dX2_put_26 rfl rfl ?_
        refine tr_i2b C dX2_put_27 ?_
        refine tr_goto C (tgt := 45) dX2_put_28 (by decide) ?_
        refine tr_iast C (n := 40) (σ' := wr σ (b + 1) a1 a2.toInt8.toInt32) (st_1 hb) dX2_put_45 rfl (fun h7 => ?_)
        refine tr_stp (fun σw6 eσw6 => ?_)
        refine tr_iconst C (v := 1) dX2_put_46 (by decide) ?_
        exact tr_zret C hr hlk rfl dX2_put_47
      · refine tr_aload_n C (i := 0) dX2_put_31 rfl rfl ?_
        refine tr_getI C (k := 1) (ci := 2) (st_0 hb) rfl rfl inT2 rfl (by decide) w189 dX2_put_32 ?_
        refine tr_iconst C (v := 1) dX2_put_35 (by decide) ?_
        refine tr_icmp_ne C (tgt := 44) dX2_put_36 (by decide) (fun q5 => ?_) (fun q5 => ?_)
        · refine tr_iload_n C (i := 2) dX2_put_39 rfl rfl ?_
          refine tr_i2s C dX2_put_40 ?_
          refine tr_goto C (tgt := 45) dX2_put_41 (by decide) ?_
          refine tr_iast C (n := 40) (σ' := wr σ (b + 1) a1 a2.toInt16.toInt32) (st_1 hb) dX2_put_45 rfl (fun h4 => ?_)
          refine tr_stp (fun σw3 eσw3 => ?_)
          refine tr_iconst C (v := 1) dX2_put_46 (by decide) ?_
          exact tr_zret C hr hlk rfl dX2_put_47
        · refine tr_iload_n C (i := 2) dX2_put_44 rfl rfl ?_
          refine tr_iast C (n := 40) (σ' := wr σ (b + 1) a1 a2) (st_1 hb) dX2_put_45 rfl (fun h2 => ?_)
          refine tr_stp (fun σw1 eσw1 => ?_)
          refine tr_iconst C (v := 1) dX2_put_46 (by decide) ?_
          exact tr_zret C hr hlk rfl dX2_put_47
    · refine tr_iconst C (v := 0) dX2_put_12 (by decide) ?_
      exact tr_zret C hr hlk rfl dX2_put_13
def fX3_becomeFirst (b : Nat) (σ : Mem) : Option (Mem) :=
  bn1 (fX3_clear b σ) fun σ1 => (
    bn1 (fX3_add b 10000 σ1) fun σ2 => (
      bn1 (fX3_endPart b σ2) fun σ3 => (
        bn1 (fX3_add b 0 σ3) fun σ4 => (
          bn1 (fX3_endPart b σ4) fun σ5 => (
            bn1 (fX3_add b 0 σ5) fun σ6 => (
              bn1 (fX3_endPart b σ6) fun σ7 => (
                some σ7
              )
            )
          )
        )
      )
    )
  )
set_option maxHeartbeats 4000000 in
set_option maxRecDepth 100000 in
theorem kX3_becomeFirst (l : Launch) (g : GG) (cs : CS) (ad : Nat → Nat) (b : Nat) (hb : isTx b) (σ : Mem) : CtV l g cs ad (shC g) mX3_becomeFirst (.code mX3_becomeFirst cX3_becomeFirst 1 none) { frames := 1, cells := 0, slots := 0, locals := 21 } [.ref (ad b)] σ (fX3_becomeFirst b σ) := by
  refine ctV_intro (own := "KinInTheHeap$Text") (by decide +kernel) rfl [some (.ref (ad b))] (Nat.le_of_ble_eq_true rfl) rfl ?_
  intro p e s m args below meth c A C hr hlk
  refine tr_aload_n C (i := 0) dX3_becomeFirst_0 rfl rfl ?_
  refine tr_cVV C (av := []) (st := []) (kX3_clear l g cs ad b hb σ) mwX3_clear w204 (tx_0 hb) rfl ⟨rfl, rfl⟩ ⟨(Nat.le_of_ble_eq_true rfl), (Nat.le_of_ble_eq_true rfl)⟩ rfl rfl (Nat.le_of_ble_eq_true rfl) dX3_becomeFirst_1 (fun σ1 hr1 => ?_)
  refine tr_aload_n C (i := 0) dX3_becomeFirst_4 rfl rfl ?_
  refine tr_sipush C (v := 10000) dX3_becomeFirst_5 (by decide) ?_
  refine tr_cVV C (av := [.int 10000]) (st := []) (kX3_add l g cs ad b 10000 hb σ1) mwX3_add w208 (tx_0 hb) rfl ⟨rfl, rfl⟩ ⟨(Nat.le_of_ble_eq_true rfl), (Nat.le_of_ble_eq_true rfl)⟩ rfl rfl (Nat.le_of_ble_eq_true rfl) dX3_becomeFirst_8 (fun σ2 hr2 => ?_)
  refine tr_aload_n C (i := 0) dX3_becomeFirst_11 rfl rfl ?_
  refine tr_cVV C (av := []) (st := []) (kX3_endPart l g cs ad b hb σ2) mwX3_endPart w212 (tx_0 hb) rfl ⟨rfl, rfl⟩ ⟨(Nat.le_of_ble_eq_true rfl), (Nat.le_of_ble_eq_true rfl)⟩ rfl rfl (Nat.le_of_ble_eq_true rfl) dX3_becomeFirst_12 (fun σ3 hr3 => ?_)
  refine tr_aload_n C (i := 0) dX3_becomeFirst_15 rfl rfl ?_
  refine tr_iconst C (v := 0) dX3_becomeFirst_16 (by decide) ?_
  refine tr_cVV C (av := [.int 0]) (st := []) (kX3_add l g cs ad b 0 hb σ3) mwX3_add w208 (tx_0 hb) rfl ⟨rfl, rfl⟩ ⟨(Nat.le_of_ble_eq_true rfl), (Nat.le_of_ble_eq_true rfl)⟩ rfl rfl (Nat.le_of_ble_eq_true rfl) dX3_becomeFirst_17 (fun σ4 hr4 => ?_)
  refine tr_aload_n C (i := 0) dX3_becomeFirst_20 rfl rfl ?_
  refine tr_cVV C (av := []) (st := []) (kX3_endPart l g cs ad b hb σ4) mwX3_endPart w212 (tx_0 hb) rfl ⟨rfl, rfl⟩ ⟨(Nat.le_of_ble_eq_true rfl), (Nat.le_of_ble_eq_true rfl)⟩ rfl rfl (Nat.le_of_ble_eq_true rfl) dX3_becomeFirst_21 (fun σ5 hr5 => ?_)
  refine tr_aload_n C (i := 0) dX3_becomeFirst_24 rfl rfl ?_
  refine tr_iconst C (v := 0) dX3_becomeFirst_25 (by decide) ?_
  refine tr_cVV C (av := [.int 0]) (st := []) (kX3_add l g cs ad b 0 hb σ5) mwX3_add w208 (tx_0 hb) rfl ⟨rfl, rfl⟩ ⟨(Nat.le_of_ble_eq_true rfl), (Nat.le_of_ble_eq_true rfl)⟩ rfl rfl (Nat.le_of_ble_eq_true rfl) dX3_becomeFirst_26 (fun σ6 hr6 => ?_)
  refine tr_aload_n C (i := 0) dX3_becomeFirst_29 rfl rfl ?_
  refine tr_cVV C (av := []) (st := []) (kX3_endPart l g cs ad b hb σ6) mwX3_endPart w212 (tx_0 hb) rfl ⟨rfl, rfl⟩ ⟨(Nat.le_of_ble_eq_true rfl), (Nat.le_of_ble_eq_true rfl)⟩ rfl rfl (Nat.le_of_ble_eq_true rfl) dX3_becomeFirst_30 (fun σ7 hr7 => ?_)
  exact tr_vret C hr hlk dX3_becomeFirst_33
