def fX5_in (a1 : Int64) (a2 : Int64) (a3 : Int64) (σ : Mem) : Option (Int32) :=
  if (lg_cmp a1 a2) < 0 then (
    some 0
  ) else (
    if 0 < (lg_cmp a1 a3) then (
      some 0
    ) else (
      some 1
    )
  )
set_option maxHeartbeats 4000000 in
set_option maxRecDepth 100000 in
theorem kX5_in (l : Launch) (g : GG) (cs : CS) (ad : Nat → Nat) (a1 : Int64) (a2 : Int64) (a3 : Int64) (σ : Mem) : CtI l g cs ad (shM g) mX5_in (.code mX5_in cX5_in 6 (some .boolean)) { frames := 0, cells := 0, slots := 0, locals := 0 } [.long a1, .long a2, .long a3] σ (pur (fX5_in a1 a2 a3 σ) σ) := by
  refine ctIP_intro (own := "KinInTheHeapModel") (by decide +kernel) rfl [some (.long a1), none, some (.long a2), none, some (.long a3), none] (Nat.le_of_ble_eq_true rfl) rfl ?_
  intro p e s m args below meth c A C hr hlk
  refine tr_lload_n C (i := 0) dX5_in_0 rfl rfl ?_
  refine tr_lload_n C (i := 2) dX5_in_1 rfl rfl ?_
  refine tr_lcmp C dX5_in_2 ?_
  refine tr_if_lt C (tgt := 17) dX5_in_3 (by decide) (fun q2 => ?_) (fun q2 => ?_)
  · refine tr_iconst C (v := 0) dX5_in_17 (by decide) ?_
    exact tr_zretP C hr hlk rfl dX5_in_18
  · refine tr_lload_n C (i := 0) dX5_in_6 rfl rfl ?_
    refine tr_lload C (i := 4) dX5_in_7 rfl ?_
    refine tr_lcmp C dX5_in_9 ?_
    refine tr_if_gt C (tgt := 17) dX5_in_10 (by decide) (fun q1 => ?_) (fun q1 => ?_)
    · refine tr_iconst C (v := 0) dX5_in_17 (by decide) ?_
      exact tr_zretP C hr hlk rfl dX5_in_18
    · refine tr_iconst C (v := 1) dX5_in_13 (by decide) ?_
      refine tr_goto C (tgt := 18) dX5_in_14 (by decide) ?_
      exact tr_zretP C hr hlk rfl dX5_in_18
def fX5_within (a1 : Int32) (a2 : Int32) (a3 : Int32) (σ : Mem) : Option (Int32) :=
  if a2 ≤ a1 then (
    if a1 ≤ a3 then (
      some a1
    ) else (
      some a3
    )
  ) else (
    some a2
  )
set_option maxHeartbeats 4000000 in
set_option maxRecDepth 100000 in
theorem kX5_within (l : Launch) (g : GG) (cs : CS) (ad : Nat → Nat) (a1 : Int32) (a2 : Int32) (a3 : Int32) (σ : Mem) : CtI l g cs ad (shM g) mX5_within (.code mX5_within cX5_within 3 (some .int)) { frames := 0, cells := 0, slots := 0, locals := 0 } [.int a1, .int a2, .int a3] σ (pur (fX5_within a1 a2 a3 σ) σ) := by
  refine ctIP_intro (own := "KinInTheHeapModel") (by decide +kernel) rfl [some (.int a1), some (.int a2), some (.int a3)] (Nat.le_of_ble_eq_true rfl) rfl ?_
  intro p e s m args below meth c A C hr hlk
  refine tr_iload_n C (i := 0) dX5_within_0 rfl rfl ?_
  refine tr_iload_n C (i := 1) dX5_within_1 rfl rfl ?_
  refine tr_icmp_ge C (tgt := 9) dX5_within_2 (by decide) (fun q2 => ?_) (fun q2 => ?_)
  · refine tr_iload_n C (i := 0) dX5_within_9 rfl rfl ?_
    refine tr_iload_n C (i := 2) dX5_within_10 rfl rfl ?_
    refine tr_icmp_le C (tgt := 18) dX5_within_11 (by decide) (fun q1 => ?_) (fun q1 => ?_)
    · refine tr_iload_n C (i := 0) dX5_within_18 rfl rfl ?_
      exact tr_iretP C hr hlk dX5_within_19
    · refine tr_iload_n C (i := 2) dX5_within_14 rfl rfl ?_
      refine tr_goto C (tgt := 19) dX5_within_15 (by decide) ?_
      exact tr_iretP C hr hlk dX5_within_19
  · refine tr_iload_n C (i := 1) dX5_within_5 rfl rfl ?_
    refine tr_goto C (tgt := 19) dX5_within_6 (by decide) ?_
    exact tr_iretP C hr hlk dX5_within_19
def fX5_spell (a1 : Int32) (a2 : Int32) (a3 : Int32) (a4 : Int32) (a5 : Int32) (a6 : Int32) (a7 : Int32) (a8 : Int32) (a9 : Int32) (σ : Mem) : Option (Mem) :=
  gd (inB a1 960) (stp (wr σ 1 a1 a2) fun σw1 => (
    gd (inB (a1 + 1) 960) (stp (wr σw1 1 (a1 + 1) a3) fun σw2 => (
      gd (inB (a1 + 2) 960) (stp (wr σw2 1 (a1 + 2) a4) fun σw3 => (
        gd (inB (a1 + 3) 960) (stp (wr σw3 1 (a1 + 3) a5) fun σw4 => (
          gd (inB (a1 + 4) 960) (stp (wr σw4 1 (a1 + 4) a6) fun σw5 => (
            gd (inB (a1 + 5) 960) (stp (wr σw5 1 (a1 + 5) a7) fun σw6 => (
              gd (inB (a1 + 6) 960) (stp (wr σw6 1 (a1 + 6) a8) fun σw7 => (
                gd (inB (a1 + 7) 960) (stp (wr σw7 1 (a1 + 7) a9) fun σw8 => (
                  some σw8
                ))
              ))
            ))
          ))
        ))
      ))
    ))
  ))
set_option maxHeartbeats 4000000 in
set_option maxRecDepth 100000 in
theorem kX5_spell (l : Launch) (g : GG) (cs : CS) (ad : Nat → Nat) (a1 : Int32) (a2 : Int32) (a3 : Int32) (a4 : Int32) (a5 : Int32) (a6 : Int32) (a7 : Int32) (a8 : Int32) (a9 : Int32) (σ : Mem) : CtV l g cs ad (shM g) mX5_spell (.code mX5_spell cX5_spell 10 none) { frames := 0, cells := 0, slots := 0, locals := 0 } [.ref (ad 0), .int a1, .int a2, .int a3, .int a4, .int a5, .int a6, .int a7, .int a8, .int a9] σ (fX5_spell a1 a2 a3 a4 a5 a6 a7 a8 a9 σ) := by
  refine ctV_intro (own := "KinInTheHeapModel") (by decide +kernel) rfl [some (.ref (ad 0)), some (.int a1), some (.int a2), some (.int a3), some (.int a4), some (.int a5), some (.int a6), some (.int a7), some (.int a8), some (.int a9)] (Nat.le_of_ble_eq_true rfl) rfl ?_
  intro p e s m args below meth c A C hr hlk
  refine tr_aload_n C (i := 0) dX5_spell_0 rfl rfl ?_
  refine tr_getR C (k := 1) (ci := 5) rfl rfl rfl inT5 rfl (by decide) w949 dX5_spell_1 ?_
  refine tr_iload_n C (i := 1) dX5_spell_4 rfl rfl ?_
  refine tr_iload_n C (i := 2) dX5_spell_5 rfl rfl ?_
  refine tr_iast C (n := 960) (σ' := wr σ 1 a1 a2) rfl dX5_spell_6 rfl (fun h16 => ?_)
  refine tr_stp (fun σw1 eσw1 => ?_)
  refine tr_aload_n C (i := 0) dX5_spell_7 rfl rfl ?_
  refine tr_getR C (k := 1) (ci := 5) rfl rfl rfl inT5 rfl (by decide) w949 dX5_spell_8 ?_
  refine tr_iload_n C (i := 1) dX5_spell_11 rfl rfl ?_
  refine tr_iconst C (v := 1) dX5_spell_12 (by decide) ?_
  refine tr_iadd C dX5_spell_13 ?_
  refine tr_iload_n C (i := 3) dX5_spell_14 rfl rfl ?_
  refine tr_iast C (n := 960) (σ' := wr σw1 1 (a1 + 1) a3) rfl dX5_spell_15 rfl (fun h15 => ?_)
  refine tr_stp (fun σw2 eσw2 => ?_)
  refine tr_aload_n C (i := 0) dX5_spell_16 rfl rfl ?_
  refine tr_getR C (k := 1) (ci := 5) rfl rfl rfl inT5 rfl (by decide) w949 dX5_spell_17 ?_
  refine tr_iload_n C (i := 1) dX5_spell_20 rfl rfl ?_
  refine tr_iconst C (v := 2) dX5_spell_21 (by decide) ?_
  refine tr_iadd C dX5_spell_22 ?_
  refine tr_iload C (i := 4) dX5_spell_23 rfl ?_
  refine tr_iast C (n := 960) (σ' := wr σw2 1 (a1 + 2) a4) rfl dX5_spell_25 rfl (fun h14 => ?_)
  refine tr_stp (fun σw3 eσw3 => ?_)
  refine tr_aload_n C (i := 0) dX5_spell_26 rfl rfl ?_
  refine tr_getR C (k := 1) (ci := 5) rfl rfl rfl inT5 rfl (by decide) w949 dX5_spell_27 ?_
  refine tr_iload_n C (i := 1) dX5_spell_30 rfl rfl ?_
  refine tr_iconst C (v := 3) dX5_spell_31 (by decide) ?_
  refine tr_iadd C dX5_spell_32 ?_
  refine tr_iload C (i := 5) dX5_spell_33 rfl ?_
  refine tr_iast C (n := 960) (σ' := wr σw3 1 (a1 + 3) a5) rfl dX5_spell_35 rfl (fun h13 => ?_)
  refine tr_stp (fun σw4 eσw4 => ?_)
  refine tr_aload_n C (i := 0) dX5_spell_36 rfl rfl ?_
  refine tr_getR C (k := 1) (ci := 5) rfl rfl rfl inT5 rfl (by decide) w949 dX5_spell_37 ?_
  refine tr_iload_n C (i := 1) dX5_spell_40 rfl rfl ?_
  refine tr_iconst C (v := 4) dX5_spell_41 (by decide) ?_
  refine tr_iadd C dX5_spell_42 ?_
  refine tr_iload C (i := 6) dX5_spell_43 rfl ?_
  refine tr_iast C (n := 960) (σ' := wr σw4 1 (a1 + 4) a6) rfl dX5_spell_45 rfl (fun h12 => ?_)
  refine tr_stp (fun σw5 eσw5 => ?_)
  refine tr_aload_n C (i := 0) dX5_spell_46 rfl rfl ?_
  refine tr_getR C (k := 1) (ci := 5) rfl rfl rfl inT5 rfl (by decide) w949 dX5_spell_47 ?_
  refine tr_iload_n C (i := 1) dX5_spell_50 rfl rfl ?_
  refine tr_iconst C (v := 5) dX5_spell_51 (by decide) ?_
  refine tr_iadd C dX5_spell_52 ?_
  refine tr_iload C (i := 7) dX5_spell_53 rfl ?_
  refine tr_iast C (n := 960) (σ' := wr σw5 1 (a1 + 5) a7) rfl dX5_spell_55 rfl (fun h11 => ?_)
  refine tr_stp (fun σw6 eσw6 => ?_)
  refine tr_aload_n C (i := 0) dX5_spell_56 rfl rfl ?_
  refine tr_getR C (k := 1) (ci := 5) rfl rfl rfl inT5 rfl (by decide) w949 dX5_spell_57 ?_
  refine tr_iload_n C (i := 1) dX5_spell_60 rfl rfl ?_
  refine tr_bipush C (v := 6) dX5_spell_61 (by decide) ?_
  refine tr_iadd C dX5_spell_63 ?_
  refine tr_iload C (i := 8) dX5_spell_64 rfl ?_
  refine tr_iast C (n := 960) (σ' := wr σw6 1 (a1 + 6) a8) rfl dX5_spell_66 rfl (fun h10 => ?_)
  refine tr_stp (fun σw7 eσw7 => ?_)
  refine tr_aload_n C (i := 0) dX5_spell_67 rfl rfl ?_
  refine tr_getR C (k := 1) (ci := 5) rfl rfl rfl inT5 rfl (by decide) w949 dX5_spell_68 ?_
  refine tr_iload_n C (i := 1) dX5_spell_71 rfl rfl ?_
  refine tr_bipush C (v := 7) dX5_spell_72 (by decide) ?_
  refine tr_iadd C dX5_spell_74 ?_
  refine tr_iload C (i := 9) dX5_spell_75 rfl ?_
  refine tr_iast C (n := 960) (σ' := wr σw7 1 (a1 + 7) a9) rfl dX5_spell_77 rfl (fun h9 => ?_)
  refine tr_stp (fun σw8 eσw8 => ?_)
  exact tr_vret C hr hlk dX5_spell_78
def fX5_isOne (a1 : Int32) (σ : Mem) : Option (Int32) :=
  bn1 (fX5_in a1.toInt64 0 (((σ.1 0 13) - 1).toInt64) σ) fun r1 => (
    gd (isB r1) (some r1)
  )
set_option maxHeartbeats 4000000 in
set_option maxRecDepth 100000 in
theorem kX5_isOne (l : Launch) (g : GG) (cs : CS) (ad : Nat → Nat) (a1 : Int32) (σ : Mem) : CtI l g cs ad (shM g) mX5_isOne (.code mX5_isOne cX5_isOne 2 (some .boolean)) { frames := 1, cells := 0, slots := 0, locals := 25 } [.ref (ad 0), .int a1] σ (pur (fX5_isOne a1 σ) σ) := by
  refine ctIP_intro (own := "KinInTheHeapModel") (by decide +kernel) rfl [some (.ref (ad 0)), some (.int a1)] (Nat.le_of_ble_eq_true rfl) rfl ?_
  intro p e s m args below meth c A C hr hlk
  refine tr_iload_n C (i := 1) dX5_isOne_0 rfl rfl ?_
  refine tr_i2l C dX5_isOne_1 ?_
  refine tr_lconst C (v := 0) dX5_isOne_2 (by decide) ?_
  refine tr_aload_n C (i := 0) dX5_isOne_3 rfl rfl ?_
  refine tr_getI C (k := 13) (ci := 5) rfl rfl rfl inT5 rfl (by decide) w961 dX5_isOne_4 ?_
  refine tr_iconst C (v := 1) dX5_isOne_7 (by decide) ?_
  refine tr_isub C dX5_isOne_8 ?_
  refine tr_i2l C dX5_isOne_9 ?_
  refine tr_cSIP C (av := [.long a1.toInt64, .long 0, .long (((σ.1 0 13) - 1).toInt64)]) (st := []) (kX5_in l g cs ad a1.toInt64 0 (((σ.1 0 13) - 1).toInt64) σ) mwX5_in w1084 ⟨rfl, rfl⟩ ⟨(Nat.le_of_ble_eq_true rfl), (Nat.le_of_ble_eq_true rfl)⟩ rfl rfl (Nat.le_of_ble_eq_true rfl) dX5_isOne_10 (fun r1 hr1 => ?_)
  exact tr_zretPG C hr hlk dX5_isOne_13
def fX5_isCell (a1 : Int32) (σ : Mem) : Option (Int32) :=
  bn1 (fX5_in a1.toInt64 0 35 σ) fun r1 => (
    gd (isB r1) (some r1)
  )
set_option maxHeartbeats 4000000 in
set_option maxRecDepth 100000 in
theorem kX5_isCell (l : Launch) (g : GG) (cs : CS) (ad : Nat → Nat) (a1 : Int32) (σ : Mem) : CtI l g cs ad (shM g) mX5_isCell (.code mX5_isCell cX5_isCell 1 (some .boolean)) { frames := 1, cells := 0, slots := 0, locals := 25 } [.int a1] σ (pur (fX5_isCell a1 σ) σ) := by
  refine ctIP_intro (own := "KinInTheHeapModel") (by decide +kernel) rfl [some (.int a1)] (Nat.le_of_ble_eq_true rfl) rfl ?_
  intro p e s m args below meth c A C hr hlk
  refine tr_iload_n C (i := 0) dX5_isCell_0 rfl rfl ?_
  refine tr_i2l C dX5_isCell_1 ?_
  refine tr_lconst C (v := 0) dX5_isCell_2 (by decide) ?_
  refine tr_ldc2 C (v := 35) w1094 dX5_isCell_3 ?_
  refine tr_cSIP C (av := [.long a1.toInt64, .long 0, .long 35]) (st := []) (kX5_in l g cs ad a1.toInt64 0 35 σ) mwX5_in w1084 ⟨rfl, rfl⟩ ⟨(Nat.le_of_ble_eq_true rfl), (Nat.le_of_ble_eq_true rfl)⟩ rfl rfl (Nat.le_of_ble_eq_true rfl) dX5_isCell_6 (fun r1 hr1 => ?_)
  exact tr_zretPG C hr hlk dX5_isCell_9
def fX5_isOf (a1 : Int32) (a2 : Int32) (σ : Mem) : Option (Int32) :=
  if a1 < 2 then (
    some 1
  ) else (
    if a1 = 2 then (
      bn1 (fX5_isCell a2 σ) fun r1 => (
        if r1 = 0 then (
          some 0
        ) else (
          some 1
        )
      )
    ) else (
      if a1 = 10 then (
        bn1 (fX5_isCell a2 σ) fun r5 => (
          if r5 = 0 then (
            some 0
          ) else (
            some 1
          )
        )
      ) else (
        bn1 (fX5_isOne a2 σ) fun r3 => (
          if r3 = 0 then (
            some 0
          ) else (
            some 1
          )
        )
      )
    )
  )
set_option maxHeartbeats 4000000 in
set_option maxRecDepth 100000 in
theorem kX5_isOf (l : Launch) (g : GG) (cs : CS) (ad : Nat → Nat) (a1 : Int32) (a2 : Int32) (σ : Mem) : CtI l g cs ad (shM g) mX5_isOf (.code mX5_isOf cX5_isOf 3 (some .boolean)) { frames := 2, cells := 0, slots := 0, locals := 46 } [.ref (ad 0), .int a1, .int a2] σ (pur (fX5_isOf a1 a2 σ) σ) := by
  refine ctIP_intro (own := "KinInTheHeapModel") (by decide +kernel) rfl [some (.ref (ad 0)), some (.int a1), some (.int a2)] (Nat.le_of_ble_eq_true rfl) rfl ?_
  intro p e s m args below meth c A C hr hlk
  refine tr_iload_n C (i := 1) dX5_isOf_0 rfl rfl ?_
  refine tr_iconst C (v := 2) dX5_isOf_1 (by decide) ?_
  refine tr_icmp_lt C (tgt := 34) dX5_isOf_2 (by decide) (fun q9 => ?_) (fun q9 => ?_)
  · refine tr_iconst C (v := 1) dX5_isOf_34 (by decide) ?_
    refine tr_goto C (tgt := 39) dX5_isOf_35 (by decide) ?_
    exact tr_zretP C hr hlk rfl dX5_isOf_39
  · refine tr_iload_n C (i := 1) dX5_isOf_5 rfl rfl ?_
    refine tr_iconst C (v := 2) dX5_isOf_6 (by decide) ?_
    refine tr_icmp_eq C (tgt := 16) dX5_isOf_7 (by decide) (fun q8 => ?_) (fun q8 => ?_)
    · refine tr_iload_n C (i := 2) dX5_isOf_16 rfl rfl ?_
      refine tr_cSIP C (av := [.int a2]) (st := []) (kX5_isCell l g cs ad a2 σ) mwX5_isCell w1091 ⟨rfl, rfl⟩ ⟨(Nat.le_of_ble_eq_true rfl), (Nat.le_of_ble_eq_true rfl)⟩ rfl rfl (Nat.le_of_ble_eq_true rfl) dX5_isOf_17 (fun r1 hr1 => ?_)
      refine tr_if_eq C (tgt := 38) dX5_isOf_20 (by decide) (fun q2 => ?_) (fun q2 => ?_)
      · refine tr_iconst C (v := 0) dX5_isOf_38 (by decide) ?_
        exact tr_zretP C hr hlk rfl dX5_isOf_39
      · refine tr_goto C (tgt := 34) dX5_isOf_23 (by decide) ?_
        refine tr_iconst C (v := 1) dX5_isOf_34 (by decide) ?_
        refine tr_goto C (tgt := 39) dX5_isOf_35 (by decide) ?_
        exact tr_zretP C hr hlk rfl dX5_isOf_39
    · refine tr_iload_n C (i := 1) dX5_isOf_10 rfl rfl ?_
      refine tr_bipush C (v := 10) dX5_isOf_11 (by decide) ?_
      refine tr_icmp_ne C (tgt := 26) dX5_isOf_13 (by decide) (fun q7 => ?_) (fun q7 => ?_)
      · refine tr_iload_n C (i := 2) dX5_isOf_16 rfl rfl ?_
        refine tr_cSIP C (av := [.int a2]) (st := []) (kX5_isCell l g cs ad a2 σ) mwX5_isCell w1091 ⟨rfl, rfl⟩ ⟨(Nat.le_of_ble_eq_true rfl), (Nat.le_of_ble_eq_true rfl)⟩ rfl rfl (Nat.le_of_ble_eq_true rfl) dX5_isOf_17 (fun r5 hr5 => ?_)
        refine tr_if_eq C (tgt := 38) dX5_isOf_20 (by decide) (fun q6 => ?_) (fun q6 => ?_)
        · refine tr_iconst C (v := 0) dX5_isOf_38 (by decide) ?_
          exact tr_zretP C hr hlk rfl dX5_isOf_39
        · refine tr_goto C (tgt := 34) dX5_isOf_23 (by decide) ?_
          refine tr_iconst C (v := 1) dX5_isOf_34 (by decide) ?_
          refine tr_goto C (tgt := 39) dX5_isOf_35 (by decide) ?_
          exact tr_zretP C hr hlk rfl dX5_isOf_39
      · refine tr_aload_n C (i := 0) dX5_isOf_26 rfl rfl ?_
        refine tr_iload_n C (i := 2) dX5_isOf_27 rfl rfl ?_
        refine tr_cVIP C (av := [.int a2]) (st := []) (kX5_isOne l g cs ad a2 σ) mwX5_isOne w1095 rfl rfl ⟨rfl, rfl⟩ ⟨(Nat.le_of_ble_eq_true rfl), (Nat.le_of_ble_eq_true rfl)⟩ rfl rfl (Nat.le_of_ble_eq_true rfl) dX5_isOf_28 (fun r3 hr3 => ?_)
        refine tr_if_eq C (tgt := 38) dX5_isOf_31 (by decide) (fun q4 => ?_) (fun q4 => ?_)
        · refine tr_iconst C (v := 0) dX5_isOf_38 (by decide) ?_
          exact tr_zretP C hr hlk rfl dX5_isOf_39
        · refine tr_iconst C (v := 1) dX5_isOf_34 (by decide) ?_
          refine tr_goto C (tgt := 39) dX5_isOf_35 (by decide) ?_
          exact tr_zretP C hr hlk rfl dX5_isOf_39
def fX5_mostOf (a1 : Int32) (σ : Mem) : Option (Int32) :=
  if a1 = 0 then (
    some 999
  ) else (
    if a1 = 2 then (
      some 1
    ) else (
      if a1 = 4 then (
        some 35
      ) else (
        some 9
      )
    )
  )
set_option maxHeartbeats 4000000 in
set_option maxRecDepth 100000 in
theorem kX5_mostOf (l : Launch) (g : GG) (cs : CS) (ad : Nat → Nat) (a1 : Int32) (σ : Mem) : CtI l g cs ad (shM g) mX5_mostOf (.code mX5_mostOf cX5_mostOf 1 (some .int)) { frames := 0, cells := 0, slots := 0, locals := 0 } [.int a1] σ (pur (fX5_mostOf a1 σ) σ) := by
  refine ctIP_intro (own := "KinInTheHeapModel") (by decide +kernel) rfl [some (.int a1)] (Nat.le_of_ble_eq_true rfl) rfl ?_
  intro p e s m args below meth c A C hr hlk
  refine tr_iload_n C (i := 0) dX5_mostOf_0 rfl rfl ?_
  refine tr_if_ne C (tgt := 10) dX5_mostOf_1 (by decide) (fun q3 => ?_) (fun q3 => ?_)
  · refine tr_sipush C (v := 999) dX5_mostOf_4 (by decide) ?_
    refine tr_goto C (tgt := 31) dX5_mostOf_7 (by decide) ?_
    exact tr_iretP C hr hlk dX5_mostOf_31
  · refine tr_iload_n C (i := 0) dX5_mostOf_10 rfl rfl ?_
    refine tr_iconst C (v := 2) dX5_mostOf_11 (by decide) ?_
    refine tr_icmp_ne C (tgt := 19) dX5_mostOf_12 (by decide) (fun q2 => ?_) (fun q2 => ?_)
    · refine tr_iconst C (v := 1) dX5_mostOf_15 (by decide) ?_
      refine tr_goto C (tgt := 31) dX5_mostOf_16 (by decide) ?_
      exact tr_iretP C hr hlk dX5_mostOf_31
    · refine tr_iload_n C (i := 0) dX5_mostOf_19 rfl rfl ?_
      refine tr_iconst C (v := 4) dX5_mostOf_20 (by decide) ?_
      refine tr_icmp_ne C (tgt := 29) dX5_mostOf_21 (by decide) (fun q1 => ?_) (fun q1 => ?_)
      · refine tr_bipush C (v := 35) dX5_mostOf_24 (by decide) ?_
        refine tr_goto C (tgt := 31) dX5_mostOf_26 (by decide) ?_
        exact tr_iretP C hr hlk dX5_mostOf_31
      · refine tr_bipush C (v := 9) dX5_mostOf_29 (by decide) ?_
        exact tr_iretP C hr hlk dX5_mostOf_31
def fX5_whoIn_L4 (a1 : Int32) (σ : Mem) (ih4 : Int32 × Int32 → Option (Int32)) : Int32 × Int32 → Option (Int32) := fun v => match v with
  | (y2_4, y3_4) =>
    if (σ.1 0 13) ≤ y3_4 then (
      some y2_4
    ) else (
      gd (inB y3_4 8) (
        if (rd σ 7 y3_4) = a1 then (
          ih4 (y2_4 ||| (1 <<< (y3_4 &&& 31)), y3_4 + 1)
        ) else (
          ih4 (y2_4 ||| (0 <<< (y3_4 &&& 31)), y3_4 + 1)
        )
      )
    )
def fX5_whoIn (a1 : Int32) (σ : Mem) : Option (Int32) :=
  loopN (fX5_whoIn_L4 a1 σ) 1000 (0, 0)
set_option maxHeartbeats 4000000 in
set_option maxRecDepth 100000 in
theorem kX5_whoIn (l : Launch) (g : GG) (cs : CS) (ad : Nat → Nat) (a1 : Int32) (σ : Mem) : CtI l g cs ad (shM g) mX5_whoIn (.code mX5_whoIn cX5_whoIn 4 (some .int)) { frames := 0, cells := 0, slots := 0, locals := 0 } [.ref (ad 0), .int a1] σ (pur (fX5_whoIn a1 σ) σ) := by
  refine ctIP_intro (own := "KinInTheHeapModel") (by decide +kernel) rfl [some (.ref (ad 0)), some (.int a1), none, none] (Nat.le_of_ble_eq_true rfl) rfl ?_
  intro p e s m args below meth c A C hr hlk
  refine tr_iconst C (v := 0) dX5_whoIn_0 (by decide) ?_
  refine tr_istore_n C (i := 2) (lv' := [some (.ref (ad 0)), some (.int a1), some (.int 0), none]) dX5_whoIn_1 rfl (by decide) rfl ?_
  refine tr_iconst C (v := 0) dX5_whoIn_2 (by decide) ?_
  refine tr_istore_n C (i := 3) (lv' := [some (.ref (ad 0)), some (.int a1), some (.int 0), some (.int 0)]) dX5_whoIn_3 rfl (by decide) rfl ?_
  refine tr_loop (b := fX5_whoIn_L4 a1 σ) (sg := fun v => σ) (lw := fun v => [some (.ref (ad 0)), some (.int a1), some (.int v.1), some (.int v.2)]) (sw := fun v => []) (fun ih4 IH4 v => ?_) 1000 (0, 0)
  obtain ⟨y2_4, y3_4⟩ := v
  refine tr_st (σ' := σ) (lv' := [some (.ref (ad 0)), some (.int a1), some (.int y2_4), some (.int y3_4)]) (st' := []) rfl rfl rfl ?_
  refine tr_iload_n C (i := 3) dX5_whoIn_4 rfl rfl ?_
  refine tr_aload_n C (i := 0) dX5_whoIn_5 rfl rfl ?_
  refine tr_getI C (k := 13) (ci := 5) rfl rfl rfl inT5 rfl (by decide) w961 dX5_whoIn_6 ?_
  refine tr_icmp_ge C (tgt := 38) dX5_whoIn_9 (by decide) (fun q3 => ?_) (fun q3 => ?_)
  · refine tr_iload_n C (i := 2) dX5_whoIn_38 rfl rfl ?_
    exact tr_iretP C hr hlk dX5_whoIn_39
  · refine tr_iload_n C (i := 2) dX5_whoIn_12 rfl rfl ?_
    refine tr_aload_n C (i := 0) dX5_whoIn_13 rfl rfl ?_
    refine tr_getR C (k := 12) (ci := 5) rfl rfl rfl inT5 rfl (by decide) w960 dX5_whoIn_14 ?_
    refine tr_iload_n C (i := 3) dX5_whoIn_17 rfl rfl ?_
    refine tr_iald C (n := 8) rfl dX5_whoIn_18 (fun h2 => ?_)
    refine tr_iload_n C (i := 1) dX5_whoIn_19 rfl rfl ?_
    refine tr_icmp_ne C (tgt := 27) dX5_whoIn_20 (by decide) (fun q1 => ?_) (fun q1 => ?_)
    · refine tr_iconst C (v := 1) dX5_whoIn_23 (by decide) ?_
      refine tr_goto C (tgt := 28) dX5_whoIn_24 (by decide) ?_
      refine tr_iload_n C (i := 3) dX5_whoIn_28 rfl rfl ?_
      refine tr_ishl C dX5_whoIn_29 ?_
      refine tr_ior C dX5_whoIn_30 ?_
      refine tr_istore_n C (i := 2) (lv' := [some (.ref (ad 0)), some (.int a1), some (.int (y2_4 ||| (1 <<< (y3_4 &&& 31)))), some (.int y3_4)]) dX5_whoIn_31 rfl (by decide) rfl ?_
      refine tr_iinc C (i := 3) (d := 1) (lv' := [some (.ref (ad 0)), some (.int a1), some (.int (y2_4 ||| (1 <<< (y3_4 &&& 31)))), some (.int (y3_4 + 1))]) dX5_whoIn_32 rfl (by decide) (by decide) rfl ?_
      refine tr_goto C (tgt := 4) dX5_whoIn_35 (by decide) ?_
      exact IH4 (y2_4 ||| (1 <<< (y3_4 &&& 31)), y3_4 + 1)
    · refine tr_iconst C (v := 0) dX5_whoIn_27 (by decide) ?_
      refine tr_iload_n C (i := 3) dX5_whoIn_28 rfl rfl ?_
      refine tr_ishl C dX5_whoIn_29 ?_
      refine tr_ior C dX5_whoIn_30 ?_
      refine tr_istore_n C (i := 2) (lv' := [some (.ref (ad 0)), some (.int a1), some (.int (y2_4 ||| (0 <<< (y3_4 &&& 31)))), some (.int y3_4)]) dX5_whoIn_31 rfl (by decide) rfl ?_
      refine tr_iinc C (i := 3) (d := 1) (lv' := [some (.ref (ad 0)), some (.int a1), some (.int (y2_4 ||| (0 <<< (y3_4 &&& 31)))), some (.int (y3_4 + 1))]) dX5_whoIn_32 rfl (by decide) (by decide) rfl ?_
      refine tr_goto C (tgt := 4) dX5_whoIn_35 (by decide) ?_
      exact IH4 (y2_4 ||| (0 <<< (y3_4 &&& 31)), y3_4 + 1)
def fX5_bitsOf_L4 (a1 : Int32) (σ : Mem) (ih4 : Int32 × Int32 → Option (Int32)) : Int32 × Int32 → Option (Int32) := fun v => match v with
  | (y1_4, y2_4) =>
    if y2_4 = 0 then (
      some y1_4
    ) else (
      ih4 (y1_4 + 1, y2_4 &&& (y2_4 - 1))
    )
def fX5_bitsOf (a1 : Int32) (σ : Mem) : Option (Int32) :=
  loopN (fX5_bitsOf_L4 a1 σ) 1000 (0, a1)
set_option maxHeartbeats 4000000 in
set_option maxRecDepth 100000 in
theorem kX5_bitsOf (l : Launch) (g : GG) (cs : CS) (ad : Nat → Nat) (a1 : Int32) (σ : Mem) : CtI l g cs ad (shM g) mX5_bitsOf (.code mX5_bitsOf cX5_bitsOf 3 (some .int)) { frames := 0, cells := 0, slots := 0, locals := 0 } [.int a1] σ (pur (fX5_bitsOf a1 σ) σ) := by
  refine ctIP_intro (own := "KinInTheHeapModel") (by decide +kernel) rfl [some (.int a1), none, none] (Nat.le_of_ble_eq_true rfl) rfl ?_
  intro p e s m args below meth c A C hr hlk
  refine tr_iconst C (v := 0) dX5_bitsOf_0 (by decide) ?_
  refine tr_istore_n C (i := 1) (lv' := [some (.int a1), some (.int 0), none]) dX5_bitsOf_1 rfl (by decide) rfl ?_
  refine tr_iload_n C (i := 0) dX5_bitsOf_2 rfl rfl ?_
  refine tr_istore_n C (i := 2) (lv' := [some (.int a1), some (.int 0), some (.int a1)]) dX5_bitsOf_3 rfl (by decide) rfl ?_
  refine tr_mask [false, true, true] rfl ?_
  refine tr_loop (b := fX5_bitsOf_L4 a1 σ) (sg := fun v => σ) (lw := fun v => [none, some (.int v.1), some (.int v.2)]) (sw := fun v => []) (fun ih4 IH4 v => ?_) 1000 (0, a1)
  obtain ⟨y1_4, y2_4⟩ := v
  refine tr_st (σ' := σ) (lv' := [none, some (.int y1_4), some (.int y2_4)]) (st' := []) rfl rfl rfl ?_
  refine tr_iload_n C (i := 2) dX5_bitsOf_4 rfl rfl ?_
  refine tr_if_eq C (tgt := 20) dX5_bitsOf_5 (by decide) (fun q1 => ?_) (fun q1 => ?_)
  · refine tr_iload_n C (i := 1) dX5_bitsOf_20 rfl rfl ?_
    exact tr_iretP C hr hlk dX5_bitsOf_21
  · refine tr_iinc C (i := 1) (d := 1) (lv' := [none, some (.int (y1_4 + 1)), some (.int y2_4)]) dX5_bitsOf_8 rfl (by decide) (by decide) rfl ?_
    refine tr_iload_n C (i := 2) dX5_bitsOf_11 rfl rfl ?_
    refine tr_iload_n C (i := 2) dX5_bitsOf_12 rfl rfl ?_
    refine tr_iconst C (v := 1) dX5_bitsOf_13 (by decide) ?_
    refine tr_isub C dX5_bitsOf_14 ?_
    refine tr_iand C dX5_bitsOf_15 ?_
    refine tr_istore_n C (i := 2) (lv' := [none, some (.int (y1_4 + 1)), some (.int (y2_4 &&& (y2_4 - 1)))]) dX5_bitsOf_16 rfl (by decide) rfl ?_
    refine tr_goto C (tgt := 4) dX5_bitsOf_17 (by decide) ?_
    exact IH4 (y1_4 + 1, y2_4 &&& (y2_4 - 1))
def fX5_kinOf (a1 : Int32) (σ : Mem) : Option (Int32) :=
  gd (inB a1 8) (
    bn1 (fX5_whoIn (rd σ 7 a1) σ) fun r1 => (
      bn1 (fX5_bitsOf r1 σ) fun r2 => (
        some r2
      )
    )
  )
set_option maxHeartbeats 4000000 in
set_option maxRecDepth 100000 in
theorem kX5_kinOf (l : Launch) (g : GG) (cs : CS) (ad : Nat → Nat) (a1 : Int32) (σ : Mem) : CtI l g cs ad (shM g) mX5_kinOf (.code mX5_kinOf cX5_kinOf 2 (some .int)) { frames := 1, cells := 0, slots := 0, locals := 23 } [.ref (ad 0), .int a1] σ (pur (fX5_kinOf a1 σ) σ) := by
  refine ctIP_intro (own := "KinInTheHeapModel") (by decide +kernel) rfl [some (.ref (ad 0)), some (.int a1)] (Nat.le_of_ble_eq_true rfl) rfl ?_
  intro p e s m args below meth c A C hr hlk
  refine tr_aload_n C (i := 0) dX5_kinOf_0 rfl rfl ?_
  refine tr_aload_n C (i := 0) dX5_kinOf_1 rfl rfl ?_
  refine tr_getR C (k := 12) (ci := 5) rfl rfl rfl inT5 rfl (by decide) w960 dX5_kinOf_2 ?_
  refine tr_iload_n C (i := 1) dX5_kinOf_5 rfl rfl ?_
  refine tr_iald C (n := 8) rfl dX5_kinOf_6 (fun h3 => ?_)
  refine tr_cVIP C (av := [.int (rd σ 7 a1)]) (st := []) (kX5_whoIn l g cs ad (rd σ 7 a1) σ) mwX5_whoIn w1108 rfl rfl ⟨rfl, rfl⟩ ⟨(Nat.le_of_ble_eq_true rfl), (Nat.le_of_ble_eq_true rfl)⟩ rfl rfl (Nat.le_of_ble_eq_true rfl) dX5_kinOf_7 (fun r1 hr1 => ?_)
  refine tr_cSIP C (av := [.int r1]) (st := []) (kX5_bitsOf l g cs ad r1 σ) mwX5_bitsOf w1120 ⟨rfl, rfl⟩ ⟨(Nat.le_of_ble_eq_true rfl), (Nat.le_of_ble_eq_true rfl)⟩ rfl rfl (Nat.le_of_ble_eq_true rfl) dX5_kinOf_10 (fun r2 hr2 => ?_)
  exact tr_iretP C hr hlk dX5_kinOf_13
def fX5_byteAt (a1 : Int32) (σ : Mem) : Option (Int32) :=
  if (σ.1 0 21) ≤ a1 then (
    some (-1)
  ) else (
    gd (inB ((σ.1 0 20) + a1) 960) (
      some (rd σ 1 ((σ.1 0 20) + a1))
    )
  )
set_option maxHeartbeats 4000000 in
set_option maxRecDepth 100000 in
theorem kX5_byteAt (l : Launch) (g : GG) (cs : CS) (ad : Nat → Nat) (a1 : Int32) (σ : Mem) : CtI l g cs ad (shM g) mX5_byteAt (.code mX5_byteAt cX5_byteAt 2 (some .int)) { frames := 0, cells := 0, slots := 0, locals := 0 } [.ref (ad 0), .int a1] σ (pur (fX5_byteAt a1 σ) σ) := by
  refine ctIP_intro (own := "KinInTheHeapModel") (by decide +kernel) rfl [some (.ref (ad 0)), some (.int a1)] (Nat.le_of_ble_eq_true rfl) rfl ?_
  intro p e s m args below meth c A C hr hlk
  refine tr_iload_n C (i := 1) dX5_byteAt_0 rfl rfl ?_
  refine tr_aload_n C (i := 0) dX5_byteAt_1 rfl rfl ?_
  refine tr_getI C (k := 21) (ci := 5) rfl rfl rfl inT5 rfl (by decide) w969 dX5_byteAt_2 ?_
  refine tr_icmp_ge C (tgt := 22) dX5_byteAt_5 (by decide) (fun q2 => ?_) (fun q2 => ?_)
  · refine tr_iconst C (v := -1) dX5_byteAt_22 (by decide) ?_
    exact tr_iretP C hr hlk dX5_byteAt_23
  · refine tr_aload_n C (i := 0) dX5_byteAt_8 rfl rfl ?_
    refine tr_getR C (k := 1) (ci := 5) rfl rfl rfl inT5 rfl (by decide) w949 dX5_byteAt_9 ?_
    refine tr_aload_n C (i := 0) dX5_byteAt_12 rfl rfl ?_
    refine tr_getI C (k := 20) (ci := 5) rfl rfl rfl inT5 rfl (by decide) w968 dX5_byteAt_13 ?_
    refine tr_iload_n C (i := 1) dX5_byteAt_16 rfl rfl ?_
    refine tr_iadd C dX5_byteAt_17 ?_
    refine tr_iald C (n := 960) rfl dX5_byteAt_18 (fun h1 => ?_)
    refine tr_goto C (tgt := 23) dX5_byteAt_19 (by decide) ?_
    exact tr_iretP C hr hlk dX5_byteAt_23
def fX5_next_b235 (σ235 : Mem) (y2_235 : Int32) : Option (Mem) :=
  if y2_235 ≤ 4 then (
    stp (putI σ235 0 23 2) fun σw45 => (
      some σw45
    )
  ) else (
    stp (putI σ235 0 23 4) fun σw46 => (
      some σw46
    )
  )
def fX5_next_L160 (ih160 : Mem × Int32 → Option (Mem)) : Mem × Int32 → Option (Mem) := fun v => match v with
  | (σ160, y2_160) =>
    bn1 (fX5_byteAt (σ160.1 0 22) σ160) fun r43 => (
      bn1 (fX5_in r43.toInt64 48 57 σ160) fun r44 => (
        if r44 = 0 then (
          fX5_next_b235 σ160 y2_160
        ) else (
          if 4 ≤ y2_160 then (
            stp (putL σ160 0 25 (σ160.2 0 25)) fun σw48 => (
              stp (putI σw48 0 22 ((σw48.1 0 22) + 1)) fun σw49 => (
                ih160 (σw49, y2_160 + 1)
              )
            )
          ) else (
            bn1 (fX5_byteAt (σ160.1 0 22) σ160) fun r50 => (
              stp (putL σ160 0 25 (((10 * (σ160.2 0 25)) + r50.toInt64) - 48)) fun σw51 => (
                stp (putI σw51 0 22 ((σw51.1 0 22) + 1)) fun σw52 => (
                  ih160 (σw52, y2_160 + 1)
                )
              )
            )
          )
        )
      )
    )
def fX5_next_L100 (ih100 : Mem → Option (Mem)) : Mem → Option (Mem) := fun v => match v with
  | σ100 =>
    bn1 (fX5_byteAt (σ100.1 0 22) σ100) fun r57 => (
      bn1 (fX5_in r57.toInt64 97 122 σ100) fun r58 => (
        if r58 = 0 then (
          some σ100
        ) else (
          stp (putI σ100 0 22 ((σ100.1 0 22) + 1)) fun σw59 => (
            ih100 σw59
          )
        )
      )
    )
def fX5_next_b39 (σ39 : Mem) : Option (Mem) :=
  stp (putI σ39 0 24 (σ39.1 0 22)) fun σw4 => (
    bn1 (fX5_byteAt (σw4.1 0 22) σw4) fun r5 => (
      stp (putI σw4 0 23 4) fun σw6 => (
        if 0 ≤ r5 then (
          bn1 (fX5_in r5.toInt64 97 122 σw6) fun r7 => (
            if r7 = 0 then (
              bn1 (fX5_in r5.toInt64 48 57 σw6) fun r8 => (
                if r8 = 0 then (
                  if r5 = 40 then (
                    stp (putI σw6 0 23 3) fun σw9 => (
                      stp (putL σw9 0 25 r5.toInt64) fun σw10 => (
                        stp (putI σw10 0 22 ((σw10.1 0 22) + 1)) fun σw11 => (
                          some σw11
                        )
                      )
                    )
                  ) else (
                    if r5 = 41 then (
                      stp (putI σw6 0 23 3) fun σw12 => (
                        stp (putL σw12 0 25 r5.toInt64) fun σw13 => (
                          stp (putI σw13 0 22 ((σw13.1 0 22) + 1)) fun σw14 => (
                            some σw14
                          )
                        )
                      )
                    ) else (
                      if r5 = 59 then (
                        stp (putI σw6 0 23 3) fun σw15 => (
                          stp (putL σw15 0 25 r5.toInt64) fun σw16 => (
                            stp (putI σw16 0 22 ((σw16.1 0 22) + 1)) fun σw17 => (
                              some σw17
                            )
                          )
                        )
                      ) else (
                        if r5 = 43 then (
                          stp (putI σw6 0 23 3) fun σw18 => (
                            stp (putL σw18 0 25 r5.toInt64) fun σw19 => (
                              stp (putI σw19 0 22 ((σw19.1 0 22) + 1)) fun σw20 => (
                                some σw20
                              )
                            )
                          )
                        ) else (
                          if r5 = 45 then (
                            stp (putI σw6 0 23 3) fun σw21 => (
                              stp (putL σw21 0 25 r5.toInt64) fun σw22 => (
                                stp (putI σw22 0 22 ((σw22.1 0 22) + 1)) fun σw23 => (
                                  some σw23
                                )
                              )
                            )
                          ) else (
                            if r5 = 42 then (
                              stp (putI σw6 0 23 3) fun σw24 => (
                                stp (putL σw24 0 25 r5.toInt64) fun σw25 => (
                                  stp (putI σw25 0 22 ((σw25.1 0 22) + 1)) fun σw26 => (
                                    some σw26
                                  )
                                )
                              )
                            ) else (
                              if r5 = 60 then (
                                stp (putI σw6 0 23 3) fun σw27 => (
                                  stp (putL σw27 0 25 r5.toInt64) fun σw28 => (
                                    stp (putI σw28 0 22 ((σw28.1 0 22) + 1)) fun σw29 => (
                                      some σw29
                                    )
                                  )
                                )
                              ) else (
                                if r5 = 61 then (
                                  stp (putI σw6 0 23 3) fun σw30 => (
                                    stp (putL σw30 0 25 r5.toInt64) fun σw31 => (
                                      stp (putI σw31 0 22 ((σw31.1 0 22) + 1)) fun σw32 => (
                                        some σw32
                                      )
                                    )
                                  )
                                ) else (
                                  some σw6
                                )
                              )
                            )
                          )
                        )
                      )
                    )
                  )
                ) else (
                  stp (putI σw6 0 23 2) fun σw41 => (
                    stp (putL σw41 0 25 0) fun σw42 => (
                      loopN (fX5_next_L160) 1000 (σw42, 0)
                    )
                  )
                )
              )
            ) else (
              stp (putI σw6 0 23 1) fun σw56 => (
                loopN (fX5_next_L100) 1000 σw56
              )
            )
          )
        ) else (
          stp (putI σw6 0 23 0) fun σw62 => (
            stp (putI σw62 0 24 (σw62.1 0 21)) fun σw63 => (
              some σw63
            )
          )
        )
      )
    )
  )
def fX5_next_L0 (ih0 : Mem → Option (Mem)) : Mem → Option (Mem) := fun v => match v with
  | σ0 =>
    bn1 (fX5_byteAt (σ0.1 0 22) σ0) fun r1 => (
      if r1 = 32 then (
        stp (putI σ0 0 22 ((σ0.1 0 22) + 1)) fun σw2 => (
          ih0 σw2
        )
      ) else (
        bn1 (fX5_byteAt (σ0.1 0 22) σ0) fun r3 => (
          if r3 = 10 then (
            stp (putI σ0 0 22 ((σ0.1 0 22) + 1)) fun σw65 => (
              ih0 σw65
            )
          ) else (
            fX5_next_b39 σ0
          )
        )
      )
    )
def fX5_next (σ : Mem) : Option (Mem) :=
  loopN (fX5_next_L0) 1000 σ
set_option maxHeartbeats 4000000 in
set_option maxRecDepth 100000 in
theorem kX5_next (l : Launch) (g : GG) (cs : CS) (ad : Nat → Nat) (σ : Mem) : CtV l g cs ad (shM g) mX5_next (.code mX5_next cX5_next 3 none) { frames := 1, cells := 0, slots := 0, locals := 25 } [.ref (ad 0)] σ (fX5_next σ) := by
  refine ctV_intro (own := "KinInTheHeapModel") (by decide +kernel) rfl [some (.ref (ad 0)), none, none] (Nat.le_of_ble_eq_true rfl) rfl ?_
  intro p e s m args below meth c A C hr hlk
  refine tr_loop (b := fX5_next_L0) (sg := fun v => v) (lw := fun v => [some (.ref (ad 0)), none, none]) (sw := fun v => []) (fun ih0 IH0 v => ?_) 1000 σ
  obtain ⟨σ0, rfl⟩ : ∃ z, z = v := ⟨v, rfl⟩
  refine tr_st (σ' := σ0) (lv' := [some (.ref (ad 0)), none, none]) (st' := []) rfl rfl rfl ?_
  refine tr_aload_n C (i := 0) dX5_next_0 rfl rfl ?_
  refine tr_aload_n C (i := 0) dX5_next_1 rfl rfl ?_
  refine tr_getI C (k := 22) (ci := 5) rfl rfl rfl inT5 rfl (by decide) w970 dX5_next_2 ?_
  refine tr_cVIP C (av := [.int (σ0.1 0 22)]) (st := []) (kX5_byteAt l g cs ad (σ0.1 0 22) σ0) mwX5_byteAt w1135 rfl rfl ⟨rfl, rfl⟩ ⟨(Nat.le_of_ble_eq_true rfl), (Nat.le_of_ble_eq_true rfl)⟩ rfl rfl (Nat.le_of_ble_eq_true rfl) dX5_next_5 (fun r1 hr1 => ?_)
  refine tr_bipush C (v := 32) dX5_next_8 (by decide) ?_
  refine tr_icmp_eq C (tgt := 26) dX5_next_10 (by decide) (fun q67 => ?_) (fun q67 => ?_)
  · refine tr_aload_n C (i := 0) dX5_next_26 rfl rfl ?_
    refine tr_dup C dX5_next_27 rfl ?_
    refine tr_getI C (k := 22) (ci := 5) rfl rfl rfl inT5 rfl (by decide) w970 dX5_next_28 ?_
    refine tr_iconst C (v := 1) dX5_next_31 (by decide) ?_
    refine tr_iadd C dX5_next_32 ?_
    refine tr_putI C (k := 22) (ci := 5) (σ' := putI σ0 0 22 ((σ0.1 0 22) + 1)) rfl rfl rfl inT5 rfl (by decide) tyX5 tyX5_ok nmX5 rfl rfl w970 dX5_next_33 rfl ?_
    refine tr_stp (fun σw2 eσw2 => ?_)
    refine tr_goto C (tgt := 0) dX5_next_36 (by decide) ?_
    exact IH0 σw2
  · refine tr_aload_n C (i := 0) dX5_next_13 rfl rfl ?_
    refine tr_aload_n C (i := 0) dX5_next_14 rfl rfl ?_
    refine tr_getI C (k := 22) (ci := 5) rfl rfl rfl inT5 rfl (by decide) w970 dX5_next_15 ?_
    refine tr_cVIP C (av := [.int (σ0.1 0 22)]) (st := []) (kX5_byteAt l g cs ad (σ0.1 0 22) σ0) mwX5_byteAt w1135 rfl rfl ⟨rfl, rfl⟩ ⟨(Nat.le_of_ble_eq_true rfl), (Nat.le_of_ble_eq_true rfl)⟩ rfl rfl (Nat.le_of_ble_eq_true rfl) dX5_next_18 (fun r3 hr3 => ?_)
    refine tr_bipush C (v := 10) dX5_next_21 (by decide) ?_
    have B39 : ∀ (σ39 : Mem), Tr p l e { frames := 1, cells := 0, slots := 0, locals := 25 } s m args below meth c g ad (shM g) A 3 (QV g ad (shM g) A below args s) (fX5_next_b39 σ39) σ39 39 [some (.ref (ad 0)), none, none] [] := by
      intro σ39
      refine tr_aload_n C (i := 0) dX5_next_39 rfl rfl ?_
      refine tr_aload_n C (i := 0) dX5_next_40 rfl rfl ?_
      refine tr_getI C (k := 22) (ci := 5) rfl rfl rfl inT5 rfl (by decide) w970 dX5_next_41 ?_
      refine tr_putI C (k := 24) (ci := 5) (σ' := putI σ39 0 24 (σ39.1 0 22)) rfl rfl rfl inT5 rfl (by decide) tyX5 tyX5_ok nmX5 rfl rfl w972 dX5_next_44 rfl ?_
      refine tr_stp (fun σw4 eσw4 => ?_)
      refine tr_aload_n C (i := 0) dX5_next_47 rfl rfl ?_
      refine tr_aload_n C (i := 0) dX5_next_48 rfl rfl ?_
      refine tr_getI C (k := 22) (ci := 5) rfl rfl rfl inT5 rfl (by decide) w970 dX5_next_49 ?_
      refine tr_cVIP C (av := [.int (σw4.1 0 22)]) (st := []) (kX5_byteAt l g cs ad (σw4.1 0 22) σw4) mwX5_byteAt w1135 rfl rfl ⟨rfl, rfl⟩ ⟨(Nat.le_of_ble_eq_true rfl), (Nat.le_of_ble_eq_true rfl)⟩ rfl rfl (Nat.le_of_ble_eq_true rfl) dX5_next_52 (fun r5 hr5 => ?_)
      refine tr_istore_n C (i := 1) (lv' := [some (.ref (ad 0)), some (.int r5), none]) dX5_next_55 rfl (by decide) rfl ?_
      refine tr_aload_n C (i := 0) dX5_next_56 rfl rfl ?_
      refine tr_iconst C (v := 4) dX5_next_57 (by decide) ?_
      refine tr_putI C (k := 23) (ci := 5) (σ' := putI σw4 0 23 4) rfl rfl rfl inT5 rfl (by decide) tyX5 tyX5_ok nmX5 rfl rfl w971 dX5_next_58 rfl ?_
      refine tr_stp (fun σw6 eσw6 => ?_)
      refine tr_iload_n C (i := 1) dX5_next_61 rfl rfl ?_
      refine tr_if_ge C (tgt := 81) dX5_next_62 (by decide) (fun q64 => ?_) (fun q64 => ?_)
      · refine tr_iload_n C (i := 1) dX5_next_81 rfl rfl ?_
        refine tr_i2l C dX5_next_82 ?_
        refine tr_ldc2 C (v := 97) w1139 dX5_next_83 ?_
        refine tr_ldc2 C (v := 122) w1140 dX5_next_86 ?_
        refine tr_cSIP C (av := [.long r5.toInt64, .long 97, .long 122]) (st := []) (kX5_in l g cs ad r5.toInt64 97 122 σw6) mwX5_in w1084 ⟨rfl, rfl⟩ ⟨(Nat.le_of_ble_eq_true rfl), (Nat.le_of_ble_eq_true rfl)⟩ rfl rfl (Nat.le_of_ble_eq_true rfl) dX5_next_89 (fun r7 hr7 => ?_)
        refine tr_if_eq C (tgt := 134) dX5_next_92 (by decide) (fun q61 => ?_) (fun q61 => ?_)
        · refine tr_iload_n C (i := 1) dX5_next_134 rfl rfl ?_
          refine tr_i2l C dX5_next_135 ?_
          refine tr_ldc2 C (v := 48) w1141 dX5_next_136 ?_
          refine tr_ldc2 C (v := 57) w1142 dX5_next_139 ?_
          refine tr_cSIP C (av := [.long r5.toInt64, .long 48, .long 57]) (st := []) (kX5_in l g cs ad r5.toInt64 48 57 σw6) mwX5_in w1084 ⟨rfl, rfl⟩ ⟨(Nat.le_of_ble_eq_true rfl), (Nat.le_of_ble_eq_true rfl)⟩ rfl rfl (Nat.le_of_ble_eq_true rfl) dX5_next_142 (fun r8 hr8 => ?_)
          refine tr_if_eq C (tgt := 252) dX5_next_145 (by decide) (fun q55 => ?_) (fun q55 => ?_)
          · refine tr_iload_n C (i := 1) dX5_next_252 rfl rfl ?_
            refine tr_bipush C (v := 40) dX5_next_253 (by decide) ?_
            refine tr_icmp_eq C (tgt := 300) dX5_next_255 (by decide) (fun q40 => ?_) (fun q40 => ?_)
            · refine tr_aload_n C (i := 0) dX5_next_300 rfl rfl ?_
              refine tr_iconst C (v := 3) dX5_next_301 (by decide) ?_
              refine tr_putI C (k := 23) (ci := 5) (σ' := putI σw6 0 23 3) rfl rfl rfl inT5 rfl (by decide) tyX5 tyX5_ok nmX5 rfl rfl w971 dX5_next_302 rfl ?_
              refine tr_stp (fun σw9 eσw9 => ?_)
              refine tr_aload_n C (i := 0) dX5_next_305 rfl rfl ?_
              refine tr_iload_n C (i := 1) dX5_next_306 rfl rfl ?_
              refine tr_i2l C dX5_next_307 ?_
              refine tr_putL C (k := 25) (ci := 5) (σ' := putL σw9 0 25 r5.toInt64) rfl rfl rfl inT5 rfl (by decide) tyX5 tyX5_ok nmX5 rfl rfl w973 dX5_next_308 rfl ?_
              refine tr_stp (fun σw10 eσw10 => ?_)
              refine tr_aload_n C (i := 0) dX5_next_311 rfl rfl ?_
              refine tr_dup C dX5_next_312 rfl ?_
              refine tr_getI C (k := 22) (ci := 5) rfl rfl rfl inT5 rfl (by decide) w970 dX5_next_313 ?_
              refine tr_iconst C (v := 1) dX5_next_316 (by decide) ?_
              refine tr_iadd C dX5_next_317 ?_
              refine tr_putI C (k := 22) (ci := 5) (σ' := putI σw10 0 22 ((σw10.1 0 22) + 1)) rfl rfl rfl inT5 rfl (by decide) tyX5 tyX5_ok nmX5 rfl rfl w970 dX5_next_318 rfl ?_
              refine tr_stp (fun σw11 eσw11 => ?_)
              exact tr_vret C hr hlk dX5_next_321
            · refine tr_iload_n C (i := 1) dX5_next_258 rfl rfl ?_
              refine tr_bipush C (v := 41) dX5_next_259 (by decide) ?_
              refine tr_icmp_eq C (tgt := 300) dX5_next_261 (by decide) (fun q39 => ?_) (fun q39 => ?_)
              · refine tr_aload_n C (i := 0) dX5_next_300 rfl rfl ?_
                refine tr_iconst C (v := 3) dX5_next_301 (by decide) ?_
                refine tr_putI C (k := 23) (ci := 5) (σ' := putI σw6 0 23 3) rfl rfl rfl inT5 rfl (by decide) tyX5 tyX5_ok nmX5 rfl rfl w971 dX5_next_302 rfl ?_
                refine tr_stp (fun σw12 eσw12 => ?_)
                refine tr_aload_n C (i := 0) dX5_next_305 rfl rfl ?_
                refine tr_iload_n C (i := 1) dX5_next_306 rfl rfl ?_
                refine tr_i2l C dX5_next_307 ?_
                refine tr_putL C (k := 25) (ci := 5) (σ' := putL σw12 0 25 r5.toInt64) rfl rfl rfl inT5 rfl (by decide) tyX5 tyX5_ok nmX5 rfl rfl w973 dX5_next_308 rfl ?_
                refine tr_stp (fun σw13 eσw13 => ?_)
                refine tr_aload_n C (i := 0) dX5_next_311 rfl rfl ?_
                refine tr_dup C dX5_next_312 rfl ?_
                refine tr_getI C (k := 22) (ci := 5) rfl rfl rfl inT5 rfl (by decide) w970 dX5_next_313 ?_
                refine tr_iconst C (v := 1) dX5_next_316 (by decide) ?_
                refine tr_iadd C dX5_next_317 ?_
                refine tr_putI C (k := 22) (ci := 5) (σ' := putI σw13 0 22 ((σw13.1 0 22) + 1)) rfl rfl rfl inT5 rfl (by decide) tyX5 tyX5_ok nmX5 rfl rfl w970 dX5_next_318 rfl ?_
                refine tr_stp (fun σw14 eσw14 => ?_)
                exact tr_vret C hr hlk dX5_next_321
              · refine tr_iload_n C (i := 1) dX5_next_264 rfl rfl ?_
                refine tr_bipush C (v := 59) dX5_next_265 (by decide) ?_
                refine tr_icmp_eq C (tgt := 300) dX5_next_267 (by decide) (fun q38 => ?_) (fun q38 => ?_)
                · refine tr_aload_n C (i := 0) dX5_next_300 rfl rfl ?_
                  refine tr_iconst C (v := 3) dX5_next_301 (by decide) ?_
                  refine tr_putI C (k := 23) (ci := 5) (σ' := putI σw6 0 23 3) rfl rfl rfl inT5 rfl (by decide) tyX5 tyX5_ok nmX5 rfl rfl w971 dX5_next_302 rfl ?_
                  refine tr_stp (fun σw15 eσw15 => ?_)
                  refine tr_aload_n C (i := 0) dX5_next_305 rfl rfl ?_
                  refine tr_iload_n C (i := 1) dX5_next_306 rfl rfl ?_
                  refine tr_i2l C dX5_next_307 ?_
                  refine tr_putL C (k := 25) (ci := 5) (σ' := putL σw15 0 25 r5.toInt64) rfl rfl rfl inT5 rfl (by decide) tyX5 tyX5_ok nmX5 rfl rfl w973 dX5_next_308 rfl ?_
                  refine tr_stp (fun σw16 eσw16 => ?_)
                  refine tr_aload_n C (i := 0) dX5_next_311 rfl rfl ?_
                  refine tr_dup C dX5_next_312 rfl ?_
                  refine tr_getI C (k := 22) (ci := 5) rfl rfl rfl inT5 rfl (by decide) w970 dX5_next_313 ?_
                  refine tr_iconst C (v := 1) dX5_next_316 (by decide) ?_
                  refine tr_iadd C dX5_next_317 ?_
                  refine tr_putI C (k := 22) (ci := 5) (σ' := putI σw16 0 22 ((σw16.1 0 22) + 1)) rfl rfl rfl inT5 rfl (by decide) tyX5 tyX5_ok nmX5 rfl rfl w970 dX5_next_318 rfl ?_
                  refine tr_stp (fun σw17 eσw17 => ?_)
                  exact tr_vret C hr hlk dX5_next_321
                · refine tr_iload_n C (i := 1) dX5_next_270 rfl rfl ?_
                  refine tr_bipush C (v := 43) dX5_next_271 (by decide) ?_
                  refine tr_icmp_eq C (tgt := 300) dX5_next_273 (by decide) (fun q37 => ?_) (fun q37 => ?_)
                  · refine tr_aload_n C (i := 0) dX5_next_300 rfl rfl ?_
                    refine tr_iconst C (v := 3) dX5_next_301 (by decide) ?_
                    refine tr_putI C (k := 23) (ci := 5) (σ' := putI σw6 0 23 3) rfl rfl rfl inT5 rfl (by decide) tyX5 tyX5_ok nmX5 rfl rfl w971 dX5_next_302 rfl ?_
                    refine tr_stp (fun σw18 eσw18 => ?_)
                    refine tr_aload_n C (i := 0) dX5_next_305 rfl rfl ?_
                    refine tr_iload_n C (i := 1) dX5_next_306 rfl rfl ?_
                    refine tr_i2l C dX5_next_307 ?_
                    refine tr_putL C (k := 25) (ci := 5) (σ' := putL σw18 0 25 r5.toInt64) rfl rfl rfl inT5 rfl (by decide) tyX5 tyX5_ok nmX5 rfl rfl w973 dX5_next_308 rfl ?_
                    refine tr_stp (fun σw19 eσw19 => ?_)
                    refine tr_aload_n C (i := 0) dX5_next_311 rfl rfl ?_
                    refine tr_dup C dX5_next_312 rfl ?_
                    refine tr_getI C (k := 22) (ci := 5) rfl rfl rfl inT5 rfl (by decide) w970 dX5_next_313 ?_
                    refine tr_iconst C (v := 1) dX5_next_316 (by decide) ?_
                    refine tr_iadd C dX5_next_317 ?_
                    refine tr_putI C (k := 22) (ci := 5) (σ' := putI σw19 0 22 ((σw19.1 0 22) + 1)) rfl rfl rfl inT5 rfl (by decide) tyX5 tyX5_ok nmX5 rfl rfl w970 dX5_next_318 rfl ?_
                    refine tr_stp (fun σw20 eσw20 => ?_)
                    exact tr_vret C hr hlk dX5_next_321
                  · refine tr_iload_n C (i := 1) dX5_next_276 rfl rfl ?_
                    refine tr_bipush C (v := 45) dX5_next_277 (by decide) ?_
                    refine tr_icmp_eq C (tgt := 300) dX5_next_279 (by decide) (fun q36 => ?_) (fun q36 => ?_)
                    · refine tr_aload_n C (i := 0) dX5_next_300 rfl rfl ?_
                      refine tr_iconst C (v := 3) dX5_next_301 (by decide) ?_
                      refine tr_putI C (k := 23) (ci := 5) (σ' := putI σw6 0 23 3) rfl rfl rfl inT5 rfl (by decide) tyX5 tyX5_ok nmX5 rfl rfl w971 dX5_next_302 rfl ?_
                      refine tr_stp (fun σw21 eσw21 => ?_)
                      refine tr_aload_n C (i := 0) dX5_next_305 rfl rfl ?_
                      refine tr_iload_n C (i := 1) dX5_next_306 rfl rfl ?_
                      refine tr_i2l C dX5_next_307 ?_
                      refine tr_putL C (k := 25) (ci := 5) (σ' := putL σw21 0 25 r5.toInt64) rfl rfl rfl inT5 rfl (by decide) tyX5 tyX5_ok nmX5 rfl rfl w973 dX5_next_308 rfl ?_
                      refine tr_stp (fun σw22 eσw22 => ?_)
                      refine tr_aload_n C (i := 0) dX5_next_311 rfl rfl ?_
                      refine tr_dup C dX5_next_312 rfl ?_
                      refine tr_getI C (k := 22) (ci := 5) rfl rfl rfl inT5 rfl (by decide) w970 dX5_next_313 ?_
                      refine tr_iconst C (v := 1) dX5_next_316 (by decide) ?_
                      refine tr_iadd C dX5_next_317 ?_
                      refine tr_putI C (k := 22) (ci := 5) (σ' := putI σw22 0 22 ((σw22.1 0 22) + 1)) rfl rfl rfl inT5 rfl (by decide) tyX5 tyX5_ok nmX5 rfl rfl w970 dX5_next_318 rfl ?_
                      refine tr_stp (fun σw23 eσw23 => ?_)
                      exact tr_vret C hr hlk dX5_next_321
                    · refine tr_iload_n C (i := 1) dX5_next_282 rfl rfl ?_
                      refine tr_bipush C (v := 42) dX5_next_283 (by decide) ?_
                      refine tr_icmp_eq C (tgt := 300) dX5_next_285 (by decide) (fun q35 => ?_) (fun q35 => ?_)
                      · refine tr_aload_n C (i := 0) dX5_next_300 rfl rfl ?_
                        refine tr_iconst C (v := 3) dX5_next_301 (by decide) ?_
                        refine tr_putI C (k := 23) (ci := 5) (σ' := putI σw6 0 23 3) rfl rfl rfl inT5 rfl (by decide) tyX5 tyX5_ok nmX5 rfl rfl w971 dX5_next_302 rfl ?_
                        refine tr_stp (fun σw24 eσw24 => ?_)
                        refine tr_aload_n C (i := 0) dX5_next_305 rfl rfl ?_
                        refine tr_iload_n C (i := 1) dX5_next_306 rfl rfl ?_
                        refine tr_i2l C dX5_next_307 ?_
                        refine tr_putL C (k := 25) (ci := 5) (σ' := putL σw24 0 25 r5.toInt64) rfl rfl rfl inT5 rfl (by decide) tyX5 tyX5_ok nmX5 rfl rfl w973 dX5_next_308 rfl ?_
                        refine tr_stp (fun σw25 eσw25 => ?_)
                        refine tr_aload_n C (i := 0) dX5_next_311 rfl rfl ?_
                        refine tr_dup C dX5_next_312 rfl ?_
                        refine tr_getI C (k := 22) (ci := 5) rfl rfl rfl inT5 rfl (by decide) w970 dX5_next_313 ?_
                        refine tr_iconst C (v := 1) dX5_next_316 (by decide) ?_
                        refine tr_iadd C dX5_next_317 ?_
                        refine tr_putI C (k := 22) (ci := 5) (σ' := putI σw25 0 22 ((σw25.1 0 22) + 1)) rfl rfl rfl inT5 rfl (by decide) tyX5 tyX5_ok nmX5 rfl rfl w970 dX5_next_318 rfl ?_
                        refine tr_stp (fun σw26 eσw26 => ?_)
                        exact tr_vret C hr hlk dX5_next_321
                      · refine tr_iload_n C (i := 1) dX5_next_288 rfl rfl ?_
                        refine tr_bipush C (v := 60) dX5_next_289 (by decide) ?_
                        refine tr_icmp_eq C (tgt := 300) dX5_next_291 (by decide) (fun q34 => ?_) (fun q34 => ?_)
                        · refine tr_aload_n C (i := 0) dX5_next_300 rfl rfl ?_
                          refine tr_iconst C (v := 3) dX5_next_301 (by decide) ?_
                          refine tr_putI C (k := 23) (ci := 5) (σ' := putI σw6 0 23 3) rfl rfl rfl inT5 rfl (by decide) tyX5 tyX5_ok nmX5 rfl rfl w971 dX5_next_302 rfl ?_
                          refine tr_stp (fun σw27 eσw27 => ?_)
                          refine tr_aload_n C (i := 0) dX5_next_305 rfl rfl ?_
                          refine tr_iload_n C (i := 1) dX5_next_306 rfl rfl ?_
                          refine tr_i2l C dX5_next_307 ?_
                          refine tr_putL C (k := 25) (ci := 5) (σ' := putL σw27 0 25 r5.toInt64) rfl rfl rfl inT5 rfl (by decide) tyX5 tyX5_ok nmX5 rfl rfl w973 dX5_next_308 rfl ?_
                          refine tr_stp (fun σw28 eσw28 => ?_)
                          refine tr_aload_n C (i := 0) dX5_next_311 rfl rfl ?_
                          refine tr_dup C dX5_next_312 rfl ?_
                          refine tr_getI C (k := 22) (ci := 5) rfl rfl rfl inT5 rfl (by decide) w970 dX5_next_313 ?_
                          refine tr_iconst C (v := 1) dX5_next_316 (by decide) ?_
                          refine tr_iadd C dX5_next_317 ?_
                          refine tr_putI C (k := 22) (ci := 5) (σ' := putI σw28 0 22 ((σw28.1 0 22) + 1)) rfl rfl rfl inT5 rfl (by decide) tyX5 tyX5_ok nmX5 rfl rfl w970 dX5_next_318 rfl ?_
                          refine tr_stp (fun σw29 eσw29 => ?_)
                          exact tr_vret C hr hlk dX5_next_321
                        · refine tr_iload_n C (i := 1) dX5_next_294 rfl rfl ?_
                          refine tr_bipush C (v := 61) dX5_next_295 (by decide) ?_
                          refine tr_icmp_ne C (tgt := 321) dX5_next_297 (by decide) (fun q33 => ?_) (fun q33 => ?_)
                          · refine tr_aload_n C (i := 0) dX5_next_300 rfl rfl ?_
                            refine tr_iconst C (v := 3) dX5_next_301 (by decide) ?_
                            refine tr_putI C (k := 23) (ci := 5) (σ' := putI σw6 0 23 3) rfl rfl rfl inT5 rfl (by decide) tyX5 tyX5_ok nmX5 rfl rfl w971 dX5_next_302 rfl ?_
                            refine tr_stp (fun σw30 eσw30 => ?_)
                            refine tr_aload_n C (i := 0) dX5_next_305 rfl rfl ?_
                            refine tr_iload_n C (i := 1) dX5_next_306 rfl rfl ?_
                            refine tr_i2l C dX5_next_307 ?_
                            refine tr_putL C (k := 25) (ci := 5) (σ' := putL σw30 0 25 r5.toInt64) rfl rfl rfl inT5 rfl (by decide) tyX5 tyX5_ok nmX5 rfl rfl w973 dX5_next_308 rfl ?_
                            refine tr_stp (fun σw31 eσw31 => ?_)
                            refine tr_aload_n C (i := 0) dX5_next_311 rfl rfl ?_
                            refine tr_dup C dX5_next_312 rfl ?_
                            refine tr_getI C (k := 22) (ci := 5) rfl rfl rfl inT5 rfl (by decide) w970 dX5_next_313 ?_
                            refine tr_iconst C (v := 1) dX5_next_316 (by decide) ?_
                            refine tr_iadd C dX5_next_317 ?_
                            refine tr_putI C (k := 22) (ci := 5) (σ' := putI σw31 0 22 ((σw31.1 0 22) + 1)) rfl rfl rfl inT5 rfl (by decide) tyX5 tyX5_ok nmX5 rfl rfl w970 dX5_next_318 rfl ?_
                            refine tr_stp (fun σw32 eσw32 => ?_)
                            exact tr_vret C hr hlk dX5_next_321
                          · exact tr_vret C hr hlk dX5_next_321
          · refine tr_aload_n C (i := 0) dX5_next_148 rfl rfl ?_
            refine tr_iconst C (v := 2) dX5_next_149 (by decide) ?_
            refine tr_putI C (k := 23) (ci := 5) (σ' := putI σw6 0 23 2) rfl rfl rfl inT5 rfl (by decide) tyX5 tyX5_ok nmX5 rfl rfl w971 dX5_next_150 rfl ?_
            refine tr_stp (fun σw41 eσw41 => ?_)
            refine tr_aload_n C (i := 0) dX5_next_153 rfl rfl ?_
            refine tr_lconst C (v := 0) dX5_next_154 (by decide) ?_
            refine tr_putL C (k := 25) (ci := 5) (σ' := putL σw41 0 25 0) rfl rfl rfl inT5 rfl (by decide) tyX5 tyX5_ok nmX5 rfl rfl w973 dX5_next_155 rfl ?_
            refine tr_stp (fun σw42 eσw42 => ?_)
            refine tr_iconst C (v := 0) dX5_next_158 (by decide) ?_
            refine tr_istore_n C (i := 2) (lv' := [some (.ref (ad 0)), some (.int r5), some (.int 0)]) dX5_next_159 rfl (by decide) rfl ?_
            refine tr_mask [true, false, true] rfl ?_
            refine tr_loop (b := fX5_next_L160) (sg := fun v => v.1) (lw := fun v => [some (.ref (ad 0)), none, some (.int v.2)]) (sw := fun v => []) (fun ih160 IH160 v => ?_) 1000 (σw42, 0)
            obtain ⟨σ160, y2_160⟩ := v
            refine tr_st (σ' := σ160) (lv' := [some (.ref (ad 0)), none, some (.int y2_160)]) (st' := []) rfl rfl rfl ?_
            refine tr_aload_n C (i := 0) dX5_next_160 rfl rfl ?_
            refine tr_aload_n C (i := 0) dX5_next_161 rfl rfl ?_
            refine tr_getI C (k := 22) (ci := 5) rfl rfl rfl inT5 rfl (by decide) w970 dX5_next_162 ?_
            refine tr_cVIP C (av := [.int (σ160.1 0 22)]) (st := []) (kX5_byteAt l g cs ad (σ160.1 0 22) σ160) mwX5_byteAt w1135 rfl rfl ⟨rfl, rfl⟩ ⟨(Nat.le_of_ble_eq_true rfl), (Nat.le_of_ble_eq_true rfl)⟩ rfl rfl (Nat.le_of_ble_eq_true rfl) dX5_next_165 (fun r43 hr43 => ?_)
            refine tr_i2l C dX5_next_168 ?_
            refine tr_ldc2 C (v := 48) w1141 dX5_next_169 ?_
            refine tr_ldc2 C (v := 57) w1142 dX5_next_172 ?_
            refine tr_cSIP C (av := [.long r43.toInt64, .long 48, .long 57]) (st := []) (kX5_in l g cs ad r43.toInt64 48 57 σ160) mwX5_in w1084 ⟨rfl, rfl⟩ ⟨(Nat.le_of_ble_eq_true rfl), (Nat.le_of_ble_eq_true rfl)⟩ rfl rfl (Nat.le_of_ble_eq_true rfl) dX5_next_175 (fun r44 hr44 => ?_)
            have B235 : ∀ (σ235 : Mem) (y2_235 : Int32), Tr p l e { frames := 1, cells := 0, slots := 0, locals := 25 } s m args below meth c g ad (shM g) A 3 (QV g ad (shM g) A below args s) (fX5_next_b235 σ235 y2_235) σ235 235 [some (.ref (ad 0)), none, some (.int y2_235)] [] := by
              intro σ235 y2_235
              refine tr_aload_n C (i := 0) dX5_next_235 rfl rfl ?_
              refine tr_iload_n C (i := 2) dX5_next_236 rfl rfl ?_
              refine tr_iconst C (v := 4) dX5_next_237 (by decide) ?_
              refine tr_icmp_le C (tgt := 245) dX5_next_238 (by decide) (fun q47 => ?_) (fun q47 => ?_)
              · refine tr_iconst C (v := 2) dX5_next_245 (by decide) ?_
                refine tr_putI C (k := 23) (ci := 5) (σ' := putI σ235 0 23 2) rfl rfl rfl inT5 rfl (by decide) tyX5 tyX5_ok nmX5 rfl rfl w971 dX5_next_246 rfl ?_
                refine tr_stp (fun σw45 eσw45 => ?_)
                refine tr_goto C (tgt := 321) dX5_next_249 (by decide) ?_
                exact tr_vret C hr hlk dX5_next_321
              · refine tr_iconst C (v := 4) dX5_next_241 (by decide) ?_
                refine tr_goto C (tgt := 246) dX5_next_242 (by decide) ?_
                refine tr_putI C (k := 23) (ci := 5) (σ' := putI σ235 0 23 4) rfl rfl rfl inT5 rfl (by decide) tyX5 tyX5_ok nmX5 rfl rfl w971 dX5_next_246 rfl ?_
                refine tr_stp (fun σw46 eσw46 => ?_)
                refine tr_goto C (tgt := 321) dX5_next_249 (by decide) ?_
                exact tr_vret C hr hlk dX5_next_321
            refine tr_if_eq C (tgt := 235) dX5_next_178 (by decide) (fun q54 => ?_) (fun q54 => ?_)
            · exact B235 σ160 y2_160
            · refine tr_aload_n C (i := 0) dX5_next_181 rfl rfl ?_
              refine tr_iload_n C (i := 2) dX5_next_182 rfl rfl ?_
              refine tr_iconst C (v := 4) dX5_next_183 (by decide) ?_
              refine tr_icmp_ge C (tgt := 212) dX5_next_184 (by decide) (fun q53 => ?_) (fun q53 => ?_)
              · refine tr_aload_n C (i := 0) dX5_next_212 rfl rfl ?_
                refine tr_getL C (k := 25) (ci := 5) rfl rfl rfl inT5 rfl (by decide) w973 dX5_next_213 ?_
                refine tr_putL C (k := 25) (ci := 5) (σ' := putL σ160 0 25 (σ160.2 0 25)) rfl rfl rfl inT5 rfl (by decide) tyX5 tyX5_ok nmX5 rfl rfl w973 dX5_next_216 rfl ?_
                refine tr_stp (fun σw48 eσw48 => ?_)
                refine tr_iinc C (i := 2) (d := 1) (lv' := [some (.ref (ad 0)), none, some (.int (y2_160 + 1))]) dX5_next_219 rfl (by decide) (by decide) rfl ?_
                refine tr_aload_n C (i := 0) dX5_next_222 rfl rfl ?_
                refine tr_dup C dX5_next_223 rfl ?_
                refine tr_getI C (k := 22) (ci := 5) rfl rfl rfl inT5 rfl (by decide) w970 dX5_next_224 ?_
                refine tr_iconst C (v := 1) dX5_next_227 (by decide) ?_
                refine tr_iadd C dX5_next_228 ?_
                refine tr_putI C (k := 22) (ci := 5) (σ' := putI σw48 0 22 ((σw48.1 0 22) + 1)) rfl rfl rfl inT5 rfl (by decide) tyX5 tyX5_ok nmX5 rfl rfl w970 dX5_next_229 rfl ?_
                refine tr_stp (fun σw49 eσw49 => ?_)
                refine tr_goto C (tgt := 160) dX5_next_232 (by decide) ?_
                exact IH160 (σw49, y2_160 + 1)
              · refine tr_ldc2 C (v := 10) w1107 dX5_next_187 ?_
                refine tr_aload_n C (i := 0) dX5_next_190 rfl rfl ?_
                refine tr_getL C (k := 25) (ci := 5) rfl rfl rfl inT5 rfl (by decide) w973 dX5_next_191 ?_
                refine tr_lmul C dX5_next_194 ?_
                refine tr_aload_n C (i := 0) dX5_next_195 rfl rfl ?_
                refine tr_aload_n C (i := 0) dX5_next_196 rfl rfl ?_
                refine tr_getI C (k := 22) (ci := 5) rfl rfl rfl inT5 rfl (by decide) w970 dX5_next_197 ?_
                refine tr_cVIP C (av := [.int (σ160.1 0 22)]) (st := [.long (10 * (σ160.2 0 25)), .ref (ad 0)]) (kX5_byteAt l g cs ad (σ160.1 0 22) σ160) mwX5_byteAt w1135 rfl rfl ⟨rfl, rfl⟩ ⟨(Nat.le_of_ble_eq_true rfl), (Nat.le_of_ble_eq_true rfl)⟩ rfl rfl (Nat.le_of_ble_eq_true rfl) dX5_next_200 (fun r50 hr50 => ?_)
                refine tr_i2l C dX5_next_203 ?_
                refine tr_ladd C dX5_next_204 ?_
                refine tr_ldc2 C (v := 48) w1141 dX5_next_205 ?_
                refine tr_lsub C dX5_next_208 ?_
                refine tr_goto C (tgt := 216) dX5_next_209 (by decide) ?_
                refine tr_putL C (k := 25) (ci := 5) (σ' := putL σ160 0 25 (((10 * (σ160.2 0 25)) + r50.toInt64) - 48)) rfl rfl rfl inT5 rfl (by decide) tyX5 tyX5_ok nmX5 rfl rfl w973 dX5_next_216 rfl ?_
                refine tr_stp (fun σw51 eσw51 => ?_)
                refine tr_iinc C (i := 2) (d := 1) (lv' := [some (.ref (ad 0)), none, some (.int (y2_160 + 1))]) dX5_next_219 rfl (by decide) (by decide) rfl ?_
                refine tr_aload_n C (i := 0) dX5_next_222 rfl rfl ?_
                refine tr_dup C dX5_next_223 rfl ?_
                refine tr_getI C (k := 22) (ci := 5) rfl rfl rfl inT5 rfl (by decide) w970 dX5_next_224 ?_
                refine tr_iconst C (v := 1) dX5_next_227 (by decide) ?_
                refine tr_iadd C dX5_next_228 ?_
                refine tr_putI C (k := 22) (ci := 5) (σ' := putI σw51 0 22 ((σw51.1 0 22) + 1)) rfl rfl rfl inT5 rfl (by decide) tyX5 tyX5_ok nmX5 rfl rfl w970 dX5_next_229 rfl ?_
                refine tr_stp (fun σw52 eσw52 => ?_)
                refine tr_goto C (tgt := 160) dX5_next_232 (by decide) ?_
                exact IH160 (σw52, y2_160 + 1)
        · refine tr_aload_n C (i := 0) dX5_next_95 rfl rfl ?_
          refine tr_iconst C (v := 1) dX5_next_96 (by decide) ?_
          refine tr_putI C (k := 23) (ci := 5) (σ' := putI σw6 0 23 1) rfl rfl rfl inT5 rfl (by decide) tyX5 tyX5_ok nmX5 rfl rfl w971 dX5_next_97 rfl ?_
          refine tr_stp (fun σw56 eσw56 => ?_)
          refine tr_mask [true, false, false] rfl ?_
          refine tr_loop (b := fX5_next_L100) (sg := fun v => v) (lw := fun v => [some (.ref (ad 0)), none, none]) (sw := fun v => []) (fun ih100 IH100 v => ?_) 1000 σw56
          obtain ⟨σ100, rfl⟩ : ∃ z, z = v := ⟨v, rfl⟩
          refine tr_st (σ' := σ100) (lv' := [some (.ref (ad 0)), none, none]) (st' := []) rfl rfl rfl ?_
          refine tr_aload_n C (i := 0) dX5_next_100 rfl rfl ?_
          refine tr_aload_n C (i := 0) dX5_next_101 rfl rfl ?_
          refine tr_getI C (k := 22) (ci := 5) rfl rfl rfl inT5 rfl (by decide) w970 dX5_next_102 ?_
          refine tr_cVIP C (av := [.int (σ100.1 0 22)]) (st := []) (kX5_byteAt l g cs ad (σ100.1 0 22) σ100) mwX5_byteAt w1135 rfl rfl ⟨rfl, rfl⟩ ⟨(Nat.le_of_ble_eq_true rfl), (Nat.le_of_ble_eq_true rfl)⟩ rfl rfl (Nat.le_of_ble_eq_true rfl) dX5_next_105 (fun r57 hr57 => ?_)
          refine tr_i2l C dX5_next_108 ?_
          refine tr_ldc2 C (v := 97) w1139 dX5_next_109 ?_
          refine tr_ldc2 C (v := 122) w1140 dX5_next_112 ?_
          refine tr_cSIP C (av := [.long r57.toInt64, .long 97, .long 122]) (st := []) (kX5_in l g cs ad r57.toInt64 97 122 σ100) mwX5_in w1084 ⟨rfl, rfl⟩ ⟨(Nat.le_of_ble_eq_true rfl), (Nat.le_of_ble_eq_true rfl)⟩ rfl rfl (Nat.le_of_ble_eq_true rfl) dX5_next_115 (fun r58 hr58 => ?_)
          refine tr_if_eq C (tgt := 321) dX5_next_118 (by decide) (fun q60 => ?_) (fun q60 => ?_)
          · exact tr_vret C hr hlk dX5_next_321
          · refine tr_aload_n C (i := 0) dX5_next_121 rfl rfl ?_
            refine tr_dup C dX5_next_122 rfl ?_
            refine tr_getI C (k := 22) (ci := 5) rfl rfl rfl inT5 rfl (by decide) w970 dX5_next_123 ?_
            refine tr_iconst C (v := 1) dX5_next_126 (by decide) ?_
            refine tr_iadd C dX5_next_127 ?_
            refine tr_putI C (k := 22) (ci := 5) (σ' := putI σ100 0 22 ((σ100.1 0 22) + 1)) rfl rfl rfl inT5 rfl (by decide) tyX5 tyX5_ok nmX5 rfl rfl w970 dX5_next_128 rfl ?_
            refine tr_stp (fun σw59 eσw59 => ?_)
            refine tr_goto C (tgt := 100) dX5_next_131 (by decide) ?_
            exact IH100 σw59
      · refine tr_aload_n C (i := 0) dX5_next_65 rfl rfl ?_
        refine tr_iconst C (v := 0) dX5_next_66 (by decide) ?_
        refine tr_putI C (k := 23) (ci := 5) (σ' := putI σw6 0 23 0) rfl rfl rfl inT5 rfl (by decide) tyX5 tyX5_ok nmX5 rfl rfl w971 dX5_next_67 rfl ?_
        refine tr_stp (fun σw62 eσw62 => ?_)
        refine tr_aload_n C (i := 0) dX5_next_70 rfl rfl ?_
        refine tr_aload_n C (i := 0) dX5_next_71 rfl rfl ?_
        refine tr_getI C (k := 21) (ci := 5) rfl rfl rfl inT5 rfl (by decide) w969 dX5_next_72 ?_
        refine tr_putI C (k := 24) (ci := 5) (σ' := putI σw62 0 24 (σw62.1 0 21)) rfl rfl rfl inT5 rfl (by decide) tyX5 tyX5_ok nmX5 rfl rfl w972 dX5_next_75 rfl ?_
        refine tr_stp (fun σw63 eσw63 => ?_)
        refine tr_goto C (tgt := 321) dX5_next_78 (by decide) ?_
        exact tr_vret C hr hlk dX5_next_321
    refine tr_icmp_ne C (tgt := 39) dX5_next_23 (by decide) (fun q66 => ?_) (fun q66 => ?_)
    · refine tr_aload_n C (i := 0) dX5_next_26 rfl rfl ?_
      refine tr_dup C dX5_next_27 rfl ?_
      refine tr_getI C (k := 22) (ci := 5) rfl rfl rfl inT5 rfl (by decide) w970 dX5_next_28 ?_
      refine tr_iconst C (v := 1) dX5_next_31 (by decide) ?_
      refine tr_iadd C dX5_next_32 ?_
      refine tr_putI C (k := 22) (ci := 5) (σ' := putI σ0 0 22 ((σ0.1 0 22) + 1)) rfl rfl rfl inT5 rfl (by decide) tyX5 tyX5_ok nmX5 rfl rfl w970 dX5_next_33 rfl ?_
      refine tr_stp (fun σw65 eσw65 => ?_)
      refine tr_goto C (tgt := 0) dX5_next_36 (by decide) ?_
      exact IH0 σw65
    · exact B39 σ0
def fX5_isLetter (a1 : Int32) (a2 : Int32) (σ : Mem) : Option (Int32) :=
  if (σ.1 0 22) ≤ ((σ.1 0 24) + a1) then (
    if a2 = 0 then (
      some 1
    ) else (
      some 0
    )
  ) else (
    bn1 (fX5_byteAt ((σ.1 0 24) + a1) σ) fun r2 => (
      if r2 = a2 then (
        some 1
      ) else (
        some 0
      )
    )
  )
set_option maxHeartbeats 4000000 in
set_option maxRecDepth 100000 in
theorem kX5_isLetter (l : Launch) (g : GG) (cs : CS) (ad : Nat → Nat) (a1 : Int32) (a2 : Int32) (σ : Mem) : CtI l g cs ad (shM g) mX5_isLetter (.code mX5_isLetter cX5_isLetter 3 (some .boolean)) { frames := 1, cells := 0, slots := 0, locals := 21 } [.ref (ad 0), .int a1, .int a2] σ (pur (fX5_isLetter a1 a2 σ) σ) := by
  refine ctIP_intro (own := "KinInTheHeapModel") (by decide +kernel) rfl [some (.ref (ad 0)), some (.int a1), some (.int a2)] (Nat.le_of_ble_eq_true rfl) rfl ?_
  intro p e s m args below meth c A C hr hlk
  refine tr_aload_n C (i := 0) dX5_isLetter_0 rfl rfl ?_
  refine tr_getI C (k := 24) (ci := 5) rfl rfl rfl inT5 rfl (by decide) w972 dX5_isLetter_1 ?_
  refine tr_iload_n C (i := 1) dX5_isLetter_4 rfl rfl ?_
  refine tr_iadd C dX5_isLetter_5 ?_
  refine tr_aload_n C (i := 0) dX5_isLetter_6 rfl rfl ?_
  refine tr_getI C (k := 22) (ci := 5) rfl rfl rfl inT5 rfl (by decide) w970 dX5_isLetter_7 ?_
  refine tr_icmp_ge C (tgt := 35) dX5_isLetter_10 (by decide) (fun q4 => ?_) (fun q4 => ?_)
  · refine tr_iload_n C (i := 2) dX5_isLetter_35 rfl rfl ?_
    refine tr_if_ne C (tgt := 43) dX5_isLetter_36 (by decide) (fun q1 => ?_) (fun q1 => ?_)
    · refine tr_iconst C (v := 1) dX5_isLetter_39 (by decide) ?_
      refine tr_goto C (tgt := 44) dX5_isLetter_40 (by decide) ?_
      exact tr_zretP C hr hlk rfl dX5_isLetter_44
    · refine tr_iconst C (v := 0) dX5_isLetter_43 (by decide) ?_
      exact tr_zretP C hr hlk rfl dX5_isLetter_44
  · refine tr_aload_n C (i := 0) dX5_isLetter_13 rfl rfl ?_
    refine tr_aload_n C (i := 0) dX5_isLetter_14 rfl rfl ?_
    refine tr_getI C (k := 24) (ci := 5) rfl rfl rfl inT5 rfl (by decide) w972 dX5_isLetter_15 ?_
    refine tr_iload_n C (i := 1) dX5_isLetter_18 rfl rfl ?_
    refine tr_iadd C dX5_isLetter_19 ?_
    refine tr_cVIP C (av := [.int ((σ.1 0 24) + a1)]) (st := []) (kX5_byteAt l g cs ad ((σ.1 0 24) + a1) σ) mwX5_byteAt w1135 rfl rfl ⟨rfl, rfl⟩ ⟨(Nat.le_of_ble_eq_true rfl), (Nat.le_of_ble_eq_true rfl)⟩ rfl rfl (Nat.le_of_ble_eq_true rfl) dX5_isLetter_20 (fun r2 hr2 => ?_)
    refine tr_iload_n C (i := 2) dX5_isLetter_23 rfl rfl ?_
    refine tr_icmp_ne C (tgt := 31) dX5_isLetter_24 (by decide) (fun q3 => ?_) (fun q3 => ?_)
    · refine tr_iconst C (v := 1) dX5_isLetter_27 (by decide) ?_
      refine tr_goto C (tgt := 44) dX5_isLetter_28 (by decide) ?_
      exact tr_zretP C hr hlk rfl dX5_isLetter_44
    · refine tr_iconst C (v := 0) dX5_isLetter_31 (by decide) ?_
      refine tr_goto C (tgt := 44) dX5_isLetter_32 (by decide) ?_
      exact tr_zretP C hr hlk rfl dX5_isLetter_44
def fX5_isWord (a1 : Int32) (a2 : Int32) (a3 : Int32) (a4 : Int32) (a5 : Int32) (a6 : Int32) (a7 : Int32) (a8 : Int32) (σ : Mem) : Option (Int32) :=
  if (σ.1 0 27) = 0 then (
    if (σ.1 0 23) = 1 then (
      if ((σ.1 0 24) + 8) < (σ.1 0 22) then (
        some 0
      ) else (
        bn1 (fX5_isLetter 0 a1 σ) fun r1 => (
          if r1 = 0 then (
            some 0
          ) else (
            bn1 (fX5_isLetter 1 a2 σ) fun r2 => (
              if r2 = 0 then (
                some 0
              ) else (
                bn1 (fX5_isLetter 2 a3 σ) fun r3 => (
                  if r3 = 0 then (
                    some 0
                  ) else (
                    bn1 (fX5_isLetter 3 a4 σ) fun r4 => (
                      if r4 = 0 then (
                        some 0
                      ) else (
                        bn1 (fX5_isLetter 4 a5 σ) fun r5 => (
                          if r5 = 0 then (
                            some 0
                          ) else (
                            bn1 (fX5_isLetter 5 a6 σ) fun r6 => (
                              if r6 = 0 then (
                                some 0
                              ) else (
                                bn1 (fX5_isLetter 6 a7 σ) fun r7 => (
                                  if r7 = 0 then (
                                    some 0
                                  ) else (
                                    bn1 (fX5_isLetter 7 a8 σ) fun r8 => (
                                      if r8 = 0 then (
                                        some 0
                                      ) else (
                                        some 1
                                      )
                                    )
                                  )
                                )
                              )
                            )
                          )
                        )
                      )
                    )
                  )
                )
              )
            )
          )
        )
      )
    ) else (
      some 0
    )
  ) else (
    some 0
  )
set_option maxHeartbeats 4000000 in
set_option maxRecDepth 100000 in
theorem kX5_isWord (l : Launch) (g : GG) (cs : CS) (ad : Nat → Nat) (a1 : Int32) (a2 : Int32) (a3 : Int32) (a4 : Int32) (a5 : Int32) (a6 : Int32) (a7 : Int32) (a8 : Int32) (σ : Mem) : CtI l g cs ad (shM g) mX5_isWord (.code mX5_isWord cX5_isWord 9 (some .boolean)) { frames := 2, cells := 0, slots := 0, locals := 43 } [.ref (ad 0), .int a1, .int a2, .int a3, .int a4, .int a5, .int a6, .int a7, .int a8] σ (pur (fX5_isWord a1 a2 a3 a4 a5 a6 a7 a8 σ) σ) := by
  refine ctIP_intro (own := "KinInTheHeapModel") (by decide +kernel) rfl [some (.ref (ad 0)), some (.int a1), some (.int a2), some (.int a3), some (.int a4), some (.int a5), some (.int a6), some (.int a7), some (.int a8)] (Nat.le_of_ble_eq_true rfl) rfl ?_
  intro p e s m args below meth c A C hr hlk
  refine tr_aload_n C (i := 0) dX5_isWord_0 rfl rfl ?_
  refine tr_getI C (k := 27) (ci := 5) rfl rfl rfl inT5 rfl (by decide) w975 dX5_isWord_1 ?_
  refine tr_if_ne C (tgt := 112) dX5_isWord_4 (by decide) (fun q19 => ?_) (fun q19 => ?_)
  · refine tr_aload_n C (i := 0) dX5_isWord_7 rfl rfl ?_
    refine tr_getI C (k := 23) (ci := 5) rfl rfl rfl inT5 rfl (by decide) w971 dX5_isWord_8 ?_
    refine tr_iconst C (v := 1) dX5_isWord_11 (by decide) ?_
    refine tr_icmp_ne C (tgt := 112) dX5_isWord_12 (by decide) (fun q18 => ?_) (fun q18 => ?_)
    · refine tr_aload_n C (i := 0) dX5_isWord_15 rfl rfl ?_
      refine tr_getI C (k := 22) (ci := 5) rfl rfl rfl inT5 rfl (by decide) w970 dX5_isWord_16 ?_
      refine tr_aload_n C (i := 0) dX5_isWord_19 rfl rfl ?_
      refine tr_getI C (k := 24) (ci := 5) rfl rfl rfl inT5 rfl (by decide) w972 dX5_isWord_20 ?_
      refine tr_bipush C (v := 8) dX5_isWord_23 (by decide) ?_
      refine tr_iadd C dX5_isWord_25 ?_
      refine tr_icmp_gt C (tgt := 112) dX5_isWord_26 (by decide) (fun q17 => ?_) (fun q17 => ?_)
      · refine tr_iconst C (v := 0) dX5_isWord_112 (by decide) ?_
        exact tr_zretP C hr hlk rfl dX5_isWord_113
      · refine tr_aload_n C (i := 0) dX5_isWord_29 rfl rfl ?_
        refine tr_iconst C (v := 0) dX5_isWord_30 (by decide) ?_
        refine tr_iload_n C (i := 1) dX5_isWord_31 rfl rfl ?_
        refine tr_cVIP C (av := [.int 0, .int a1]) (st := []) (kX5_isLetter l g cs ad 0 a1 σ) mwX5_isLetter w1147 rfl rfl ⟨rfl, rfl⟩ ⟨(Nat.le_of_ble_eq_true rfl), (Nat.le_of_ble_eq_true rfl)⟩ rfl rfl (Nat.le_of_ble_eq_true rfl) dX5_isWord_32 (fun r1 hr1 => ?_)
        refine tr_if_eq C (tgt := 112) dX5_isWord_35 (by decide) (fun q16 => ?_) (fun q16 => ?_)
        · refine tr_iconst C (v := 0) dX5_isWord_112 (by decide) ?_
          exact tr_zretP C hr hlk rfl dX5_isWord_113
        · refine tr_aload_n C (i := 0) dX5_isWord_38 rfl rfl ?_
          refine tr_iconst C (v := 1) dX5_isWord_39 (by decide) ?_
          refine tr_iload_n C (i := 2) dX5_isWord_40 rfl rfl ?_
          refine tr_cVIP C (av := [.int 1, .int a2]) (st := []) (kX5_isLetter l g cs ad 1 a2 σ) mwX5_isLetter w1147 rfl rfl ⟨rfl, rfl⟩ ⟨(Nat.le_of_ble_eq_true rfl), (Nat.le_of_ble_eq_true rfl)⟩ rfl rfl (Nat.le_of_ble_eq_true rfl) dX5_isWord_41 (fun r2 hr2 => ?_)
          refine tr_if_eq C (tgt := 112) dX5_isWord_44 (by decide) (fun q15 => ?_) (fun q15 => ?_)
          · refine tr_iconst C (v := 0) dX5_isWord_112 (by decide) ?_
            exact tr_zretP C hr hlk rfl dX5_isWord_113
          · refine tr_aload_n C (i := 0) dX5_isWord_47 rfl rfl ?_
            refine tr_iconst C (v := 2) dX5_isWord_48 (by decide) ?_
            refine tr_iload_n C (i := 3) dX5_isWord_49 rfl rfl ?_
            refine tr_cVIP C (av := [.int 2, .int a3]) (st := []) (kX5_isLetter l g cs ad 2 a3 σ) mwX5_isLetter w1147 rfl rfl ⟨rfl, rfl⟩ ⟨(Nat.le_of_ble_eq_true rfl), (Nat.le_of_ble_eq_true rfl)⟩ rfl rfl (Nat.le_of_ble_eq_true rfl) dX5_isWord_50 (fun r3 hr3 => ?_)
            refine tr_if_eq C (tgt := 112) dX5_isWord_53 (by decide) (fun q14 => ?_) (fun q14 => ?_)
            · refine tr_iconst C (v := 0) dX5_isWord_112 (by decide) ?_
              exact tr_zretP C hr hlk rfl dX5_isWord_113
            · refine tr_aload_n C (i := 0) dX5_isWord_56 rfl rfl ?_
              refine tr_iconst C (v := 3) dX5_isWord_57 (by decide) ?_
              refine tr_iload C (i := 4) dX5_isWord_58 rfl ?_
              refine tr_cVIP C (av := [.int 3, .int a4]) (st := []) (kX5_isLetter l g cs ad 3 a4 σ) mwX5_isLetter w1147 rfl rfl ⟨rfl, rfl⟩ ⟨(Nat.le_of_ble_eq_true rfl), (Nat.le_of_ble_eq_true rfl)⟩ rfl rfl (Nat.le_of_ble_eq_true rfl) dX5_isWord_60 (fun r4 hr4 => ?_)
              refine tr_if_eq C (tgt := 112) dX5_isWord_63 (by decide) (fun q13 => ?_) (fun q13 => ?_)
              · refine tr_iconst C (v := 0) dX5_isWord_112 (by decide) ?_
                exact tr_zretP C hr hlk rfl dX5_isWord_113
              · refine tr_aload_n C (i := 0) dX5_isWord_66 rfl rfl ?_
                refine tr_iconst C (v := 4) dX5_isWord_67 (by decide) ?_
                refine tr_iload C (i := 5) dX5_isWord_68 rfl ?_
                refine tr_cVIP C (av := [.int 4, .int a5]) (st := []) (kX5_isLetter l g cs ad 4 a5 σ) mwX5_isLetter w1147 rfl rfl ⟨rfl, rfl⟩ ⟨(Nat.le_of_ble_eq_true rfl), (Nat.le_of_ble_eq_true rfl)⟩ rfl rfl (Nat.le_of_ble_eq_true rfl) dX5_isWord_70 (fun r5 hr5 => ?_)
                refine tr_if_eq C (tgt := 112) dX5_isWord_73 (by decide) (fun q12 => ?_) (fun q12 => ?_)
                · refine tr_iconst C (v := 0) dX5_isWord_112 (by decide) ?_
                  exact tr_zretP C hr hlk rfl dX5_isWord_113
                · refine tr_aload_n C (i := 0) dX5_isWord_76 rfl rfl ?_
                  refine tr_iconst C (v := 5) dX5_isWord_77 (by decide) ?_
                  refine tr_iload C (i := 6) dX5_isWord_78 rfl ?_
                  refine tr_cVIP C (av := [.int 5, .int a6]) (st := []) (kX5_isLetter l g cs ad 5 a6 σ) mwX5_isLetter w1147 rfl rfl ⟨rfl, rfl⟩ ⟨(Nat.le_of_ble_eq_true rfl), (Nat.le_of_ble_eq_true rfl)⟩ rfl rfl (Nat.le_of_ble_eq_true rfl) dX5_isWord_80 (fun r6 hr6 => ?_)
                  refine tr_if_eq C (tgt := 112) dX5_isWord_83 (by decide) (fun q11 => ?_) (fun q11 => ?_)
                  · refine tr_iconst C (v := 0) dX5_isWord_112 (by decide) ?_
                    exact tr_zretP C hr hlk rfl dX5_isWord_113
                  · refine tr_aload_n C (i := 0) dX5_isWord_86 rfl rfl ?_
                    refine tr_bipush C (v := 6) dX5_isWord_87 (by decide) ?_
                    refine tr_iload C (i := 7) dX5_isWord_89 rfl ?_
                    refine tr_cVIP C (av := [.int 6, .int a7]) (st := []) (kX5_isLetter l g cs ad 6 a7 σ) mwX5_isLetter w1147 rfl rfl ⟨rfl, rfl⟩ ⟨(Nat.le_of_ble_eq_true rfl), (Nat.le_of_ble_eq_true rfl)⟩ rfl rfl (Nat.le_of_ble_eq_true rfl) dX5_isWord_91 (fun r7 hr7 => ?_)
                    refine tr_if_eq C (tgt := 112) dX5_isWord_94 (by decide) (fun q10 => ?_) (fun q10 => ?_)
                    · refine tr_iconst C (v := 0) dX5_isWord_112 (by decide) ?_
                      exact tr_zretP C hr hlk rfl dX5_isWord_113
                    · refine tr_aload_n C (i := 0) dX5_isWord_97 rfl rfl ?_
                      refine tr_bipush C (v := 7) dX5_isWord_98 (by decide) ?_
                      refine tr_iload C (i := 8) dX5_isWord_100 rfl ?_
                      refine tr_cVIP C (av := [.int 7, .int a8]) (st := []) (kX5_isLetter l g cs ad 7 a8 σ) mwX5_isLetter w1147 rfl rfl ⟨rfl, rfl⟩ ⟨(Nat.le_of_ble_eq_true rfl), (Nat.le_of_ble_eq_true rfl)⟩ rfl rfl (Nat.le_of_ble_eq_true rfl) dX5_isWord_102 (fun r8 hr8 => ?_)
                      refine tr_if_eq C (tgt := 112) dX5_isWord_105 (by decide) (fun q9 => ?_) (fun q9 => ?_)
                      · refine tr_iconst C (v := 0) dX5_isWord_112 (by decide) ?_
                        exact tr_zretP C hr hlk rfl dX5_isWord_113
                      · refine tr_iconst C (v := 1) dX5_isWord_108 (by decide) ?_
                        refine tr_goto C (tgt := 113) dX5_isWord_109 (by decide) ?_
                        exact tr_zretP C hr hlk rfl dX5_isWord_113
    · refine tr_iconst C (v := 0) dX5_isWord_112 (by decide) ?_
      exact tr_zretP C hr hlk rfl dX5_isWord_113
  · refine tr_iconst C (v := 0) dX5_isWord_112 (by decide) ?_
    exact tr_zretP C hr hlk rfl dX5_isWord_113
def fX5_fail (σ : Mem) : Option (Mem) :=
  if (σ.1 0 27) = 0 then (
    stp (putI σ 0 27 1) fun σw1 => (
      stp (putI σw1 0 28 (σw1.1 0 24)) fun σw2 => (
        some σw2
      )
    )
  ) else (
    some σ
  )
set_option maxHeartbeats 4000000 in
set_option maxRecDepth 100000 in
theorem kX5_fail (l : Launch) (g : GG) (cs : CS) (ad : Nat → Nat) (σ : Mem) : CtV l g cs ad (shM g) mX5_fail (.code mX5_fail cX5_fail 1 none) { frames := 0, cells := 0, slots := 0, locals := 0 } [.ref (ad 0)] σ (fX5_fail σ) := by
  refine ctV_intro (own := "KinInTheHeapModel") (by decide +kernel) rfl [some (.ref (ad 0))] (Nat.le_of_ble_eq_true rfl) rfl ?_
  intro p e s m args below meth c A C hr hlk
  refine tr_aload_n C (i := 0) dX5_fail_0 rfl rfl ?_
  refine tr_getI C (k := 27) (ci := 5) rfl rfl rfl inT5 rfl (by decide) w975 dX5_fail_1 ?_
  refine tr_if_ne C (tgt := 20) dX5_fail_4 (by decide) (fun q3 => ?_) (fun q3 => ?_)
  · refine tr_aload_n C (i := 0) dX5_fail_7 rfl rfl ?_
    refine tr_iconst C (v := 1) dX5_fail_8 (by decide) ?_
    refine tr_putZ C (k := 27) (ci := 5) (σ' := putI σ 0 27 1) rfl rfl rfl inT5 rfl (by decide) tyX5 tyX5_ok nmX5 rfl rfl rfl w975 dX5_fail_9 rfl ?_
    refine tr_stp (fun σw1 eσw1 => ?_)
    refine tr_aload_n C (i := 0) dX5_fail_12 rfl rfl ?_
    refine tr_aload_n C (i := 0) dX5_fail_13 rfl rfl ?_
    refine tr_getI C (k := 24) (ci := 5) rfl rfl rfl inT5 rfl (by decide) w972 dX5_fail_14 ?_
    refine tr_putI C (k := 28) (ci := 5) (σ' := putI σw1 0 28 (σw1.1 0 24)) rfl rfl rfl inT5 rfl (by decide) tyX5 tyX5_ok nmX5 rfl rfl w976 dX5_fail_17 rfl ?_
    refine tr_stp (fun σw2 eσw2 => ?_)
    exact tr_vret C hr hlk dX5_fail_20
  · exact tr_vret C hr hlk dX5_fail_20
def fX5_opens (σ : Mem) : Option (Int32 × Mem) :=
  if (σ.1 0 26) = 5 then (
    bn1 (fX5_fail σ) fun σ3 => (
      some (0, σ3)
    )
  ) else (
    stp (putI σ 0 26 ((σ.1 0 26) + 1)) fun σw1 => (
      bn1 (fX5_next σw1) fun σ2 => (
        some (1, σ2)
      )
    )
  )
set_option maxHeartbeats 4000000 in
set_option maxRecDepth 100000 in
theorem kX5_opens (l : Launch) (g : GG) (cs : CS) (ad : Nat → Nat) (σ : Mem) : CtI l g cs ad (shM g) mX5_opens (.code mX5_opens cX5_opens 1 (some .boolean)) { frames := 2, cells := 0, slots := 0, locals := 47 } [.ref (ad 0)] σ (fX5_opens σ) := by
  refine ctI_intro (own := "KinInTheHeapModel") (by decide +kernel) rfl [some (.ref (ad 0))] (Nat.le_of_ble_eq_true rfl) rfl ?_
  intro p e s m args below meth c A C hr hlk
  refine tr_aload_n C (i := 0) dX5_opens_0 rfl rfl ?_
  refine tr_getI C (k := 26) (ci := 5) rfl rfl rfl inT5 rfl (by decide) w974 dX5_opens_1 ?_
  refine tr_iconst C (v := 5) dX5_opens_4 (by decide) ?_
  refine tr_icmp_ne C (tgt := 14) dX5_opens_5 (by decide) (fun q4 => ?_) (fun q4 => ?_)
  · refine tr_aload_n C (i := 0) dX5_opens_8 rfl rfl ?_
    refine tr_cVV C (av := []) (st := []) (kX5_fail l g cs ad σ) mwX5_fail w1155 rfl rfl ⟨rfl, rfl⟩ ⟨(Nat.le_of_ble_eq_true rfl), (Nat.le_of_ble_eq_true rfl)⟩ rfl rfl (Nat.le_of_ble_eq_true rfl) dX5_opens_9 (fun σ3 hr3 => ?_)
    refine tr_iconst C (v := 0) dX5_opens_12 (by decide) ?_
    exact tr_zret C hr hlk rfl dX5_opens_13
  · refine tr_aload_n C (i := 0) dX5_opens_14 rfl rfl ?_
    refine tr_dup C dX5_opens_15 rfl ?_
    refine tr_getI C (k := 26) (ci := 5) rfl rfl rfl inT5 rfl (by decide) w974 dX5_opens_16 ?_
    refine tr_iconst C (v := 1) dX5_opens_19 (by decide) ?_
    refine tr_iadd C dX5_opens_20 ?_
    refine tr_putI C (k := 26) (ci := 5) (σ' := putI σ 0 26 ((σ.1 0 26) + 1)) rfl rfl rfl inT5 rfl (by decide) tyX5 tyX5_ok nmX5 rfl rfl w974 dX5_opens_21 rfl ?_
    refine tr_stp (fun σw1 eσw1 => ?_)
    refine tr_aload_n C (i := 0) dX5_opens_24 rfl rfl ?_
    refine tr_cVV C (av := []) (st := []) (kX5_next l g cs ad σw1) mwX5_next w1131 rfl rfl ⟨rfl, rfl⟩ ⟨(Nat.le_of_ble_eq_true rfl), (Nat.le_of_ble_eq_true rfl)⟩ rfl rfl (Nat.le_of_ble_eq_true rfl) dX5_opens_25 (fun σ2 hr2 => ?_)
    refine tr_iconst C (v := 1) dX5_opens_28 (by decide) ?_
    exact tr_zret C hr hlk rfl dX5_opens_29
def fX5_isSign (a1 : Int32) (σ : Mem) : Option (Int32) :=
  if (σ.1 0 27) = 0 then (
    if (σ.1 0 23) = 3 then (
      if (lg_cmp (σ.2 0 25) a1.toInt64) = 0 then (
        some 1
      ) else (
        some 0
      )
    ) else (
      some 0
    )
  ) else (
    some 0
  )
set_option maxHeartbeats 4000000 in
set_option maxRecDepth 100000 in
theorem kX5_isSign (l : Launch) (g : GG) (cs : CS) (ad : Nat → Nat) (a1 : Int32) (σ : Mem) : CtI l g cs ad (shM g) mX5_isSign (.code mX5_isSign cX5_isSign 2 (some .boolean)) { frames := 0, cells := 0, slots := 0, locals := 0 } [.ref (ad 0), .int a1] σ (pur (fX5_isSign a1 σ) σ) := by
  refine ctIP_intro (own := "KinInTheHeapModel") (by decide +kernel) rfl [some (.ref (ad 0)), some (.int a1)] (Nat.le_of_ble_eq_true rfl) rfl ?_
  intro p e s m args below meth c A C hr hlk
  refine tr_aload_n C (i := 0) dX5_isSign_0 rfl rfl ?_
  refine tr_getI C (k := 27) (ci := 5) rfl rfl rfl inT5 rfl (by decide) w975 dX5_isSign_1 ?_
  refine tr_if_ne C (tgt := 29) dX5_isSign_4 (by decide) (fun q3 => ?_) (fun q3 => ?_)
  · refine tr_aload_n C (i := 0) dX5_isSign_7 rfl rfl ?_
    refine tr_getI C (k := 23) (ci := 5) rfl rfl rfl inT5 rfl (by decide) w971 dX5_isSign_8 ?_
    refine tr_iconst C (v := 3) dX5_isSign_11 (by decide) ?_
    refine tr_icmp_ne C (tgt := 29) dX5_isSign_12 (by decide) (fun q2 => ?_) (fun q2 => ?_)
    · refine tr_aload_n C (i := 0) dX5_isSign_15 rfl rfl ?_
      refine tr_getL C (k := 25) (ci := 5) rfl rfl rfl inT5 rfl (by decide) w973 dX5_isSign_16 ?_
      refine tr_iload_n C (i := 1) dX5_isSign_19 rfl rfl ?_
      refine tr_i2l C dX5_isSign_20 ?_
      refine tr_lcmp C dX5_isSign_21 ?_
      refine tr_if_ne C (tgt := 29) dX5_isSign_22 (by decide) (fun q1 => ?_) (fun q1 => ?_)
      · refine tr_iconst C (v := 1) dX5_isSign_25 (by decide) ?_
        refine tr_goto C (tgt := 30) dX5_isSign_26 (by decide) ?_
        exact tr_zretP C hr hlk rfl dX5_isSign_30
      · refine tr_iconst C (v := 0) dX5_isSign_29 (by decide) ?_
        exact tr_zretP C hr hlk rfl dX5_isSign_30
    · refine tr_iconst C (v := 0) dX5_isSign_29 (by decide) ?_
      exact tr_zretP C hr hlk rfl dX5_isSign_30
  · refine tr_iconst C (v := 0) dX5_isSign_29 (by decide) ?_
    exact tr_zretP C hr hlk rfl dX5_isSign_30
def fX5_name (σ : Mem) : Option (Int32 × Mem) :=
  bn1 (fX5_isWord 102 111 114 99 101 0 0 0 σ) fun r1 => (
    if r1 = 0 then (
      bn1 (fX5_isWord 110 117 109 98 101 114 0 0 σ) fun r2 => (
        if r2 = 0 then (
          bn1 (fX5_isWord 114 111 119 0 0 0 0 0 σ) fun r3 => (
            if r3 = 0 then (
              bn1 (fX5_isWord 99 111 108 117 109 110 0 0 σ) fun r4 => (
                if r4 = 0 then (
                  bn1 (fX5_isWord 107 105 110 0 0 0 0 0 σ) fun r5 => (
                    if r5 = 0 then (
                      bn1 (fX5_isWord 119 101 101 107 0 0 0 0 σ) fun r6 => (
                        if r6 = 0 then (
                          bn1 (fX5_fail σ) fun σ7 => (
                            some (0, σ7)
                          )
                        ) else (
                          some (σ.1 0 19, σ)
                        )
                      )
                    ) else (
                      some (σ.1 0 18, σ)
                    )
                  )
                ) else (
                  some (σ.1 0 17, σ)
                )
              )
            ) else (
              some (σ.1 0 16, σ)
            )
          )
        ) else (
          some (σ.1 0 15, σ)
        )
      )
    ) else (
      some (σ.1 0 14, σ)
    )
  )
set_option maxHeartbeats 4000000 in
set_option maxRecDepth 100000 in
theorem kX5_name (l : Launch) (g : GG) (cs : CS) (ad : Nat → Nat) (σ : Mem) : CtI l g cs ad (shM g) mX5_name (.code mX5_name cX5_name 1 (some .int)) { frames := 3, cells := 0, slots := 0, locals := 71 } [.ref (ad 0)] σ (fX5_name σ) := by
  refine ctI_intro (own := "KinInTheHeapModel") (by decide +kernel) rfl [some (.ref (ad 0))] (Nat.le_of_ble_eq_true rfl) rfl ?_
  intro p e s m args below meth c A C hr hlk
  refine tr_aload_n C (i := 0) dX5_name_0 rfl rfl ?_
  refine tr_bipush C (v := 102) dX5_name_1 (by decide) ?_
  refine tr_bipush C (v := 111) dX5_name_3 (by decide) ?_
  refine tr_bipush C (v := 114) dX5_name_5 (by decide) ?_
  refine tr_bipush C (v := 99) dX5_name_7 (by decide) ?_
  refine tr_bipush C (v := 101) dX5_name_9 (by decide) ?_
  refine tr_iconst C (v := 0) dX5_name_11 (by decide) ?_
  refine tr_iconst C (v := 0) dX5_name_12 (by decide) ?_
  refine tr_iconst C (v := 0) dX5_name_13 (by decide) ?_
  refine tr_cVIP C (av := [.int 102, .int 111, .int 114, .int 99, .int 101, .int 0, .int 0, .int 0]) (st := []) (kX5_isWord l g cs ad 102 111 114 99 101 0 0 0 σ) mwX5_isWord w1143 rfl rfl ⟨rfl, rfl⟩ ⟨(Nat.le_of_ble_eq_true rfl), (Nat.le_of_ble_eq_true rfl)⟩ rfl rfl (Nat.le_of_ble_eq_true rfl) dX5_name_14 (fun r1 hr1 => ?_)
  refine tr_if_eq C (tgt := 25) dX5_name_17 (by decide) (fun q13 => ?_) (fun q13 => ?_)
  · refine tr_aload_n C (i := 0) dX5_name_25 rfl rfl ?_
    refine tr_bipush C (v := 110) dX5_name_26 (by decide) ?_
    refine tr_bipush C (v := 117) dX5_name_28 (by decide) ?_
    refine tr_bipush C (v := 109) dX5_name_30 (by decide) ?_
    refine tr_bipush C (v := 98) dX5_name_32 (by decide) ?_
    refine tr_bipush C (v := 101) dX5_name_34 (by decide) ?_
    refine tr_bipush C (v := 114) dX5_name_36 (by decide) ?_
    refine tr_iconst C (v := 0) dX5_name_38 (by decide) ?_
    refine tr_iconst C (v := 0) dX5_name_39 (by decide) ?_
    refine tr_cVIP C (av := [.int 110, .int 117, .int 109, .int 98, .int 101, .int 114, .int 0, .int 0]) (st := []) (kX5_isWord l g cs ad 110 117 109 98 101 114 0 0 σ) mwX5_isWord w1143 rfl rfl ⟨rfl, rfl⟩ ⟨(Nat.le_of_ble_eq_true rfl), (Nat.le_of_ble_eq_true rfl)⟩ rfl rfl (Nat.le_of_ble_eq_true rfl) dX5_name_40 (fun r2 hr2 => ?_)
    refine tr_if_eq C (tgt := 51) dX5_name_43 (by decide) (fun q12 => ?_) (fun q12 => ?_)
    · refine tr_aload_n C (i := 0) dX5_name_51 rfl rfl ?_
      refine tr_bipush C (v := 114) dX5_name_52 (by decide) ?_
      refine tr_bipush C (v := 111) dX5_name_54 (by decide) ?_
      refine tr_bipush C (v := 119) dX5_name_56 (by decide) ?_
      refine tr_iconst C (v := 0) dX5_name_58 (by decide) ?_
      refine tr_iconst C (v := 0) dX5_name_59 (by decide) ?_
      refine tr_iconst C (v := 0) dX5_name_60 (by decide) ?_
      refine tr_iconst C (v := 0) dX5_name_61 (by decide) ?_
      refine tr_iconst C (v := 0) dX5_name_62 (by decide) ?_
      refine tr_cVIP C (av := [.int 114, .int 111, .int 119, .int 0, .int 0, .int 0, .int 0, .int 0]) (st := []) (kX5_isWord l g cs ad 114 111 119 0 0 0 0 0 σ) mwX5_isWord w1143 rfl rfl ⟨rfl, rfl⟩ ⟨(Nat.le_of_ble_eq_true rfl), (Nat.le_of_ble_eq_true rfl)⟩ rfl rfl (Nat.le_of_ble_eq_true rfl) dX5_name_63 (fun r3 hr3 => ?_)
      refine tr_if_eq C (tgt := 74) dX5_name_66 (by decide) (fun q11 => ?_) (fun q11 => ?_)
      · refine tr_aload_n C (i := 0) dX5_name_74 rfl rfl ?_
        refine tr_bipush C (v := 99) dX5_name_75 (by decide) ?_
        refine tr_bipush C (v := 111) dX5_name_77 (by decide) ?_
        refine tr_bipush C (v := 108) dX5_name_79 (by decide) ?_
        refine tr_bipush C (v := 117) dX5_name_81 (by decide) ?_
        refine tr_bipush C (v := 109) dX5_name_83 (by decide) ?_
        refine tr_bipush C (v := 110) dX5_name_85 (by decide) ?_
        refine tr_iconst C (v := 0) dX5_name_87 (by decide) ?_
        refine tr_iconst C (v := 0) dX5_name_88 (by decide) ?_
        refine tr_cVIP C (av := [.int 99, .int 111, .int 108, .int 117, .int 109, .int 110, .int 0, .int 0]) (st := []) (kX5_isWord l g cs ad 99 111 108 117 109 110 0 0 σ) mwX5_isWord w1143 rfl rfl ⟨rfl, rfl⟩ ⟨(Nat.le_of_ble_eq_true rfl), (Nat.le_of_ble_eq_true rfl)⟩ rfl rfl (Nat.le_of_ble_eq_true rfl) dX5_name_89 (fun r4 hr4 => ?_)
        refine tr_if_eq C (tgt := 100) dX5_name_92 (by decide) (fun q10 => ?_) (fun q10 => ?_)
        · refine tr_aload_n C (i := 0) dX5_name_100 rfl rfl ?_
          refine tr_bipush C (v := 107) dX5_name_101 (by decide) ?_
          refine tr_bipush C (v := 105) dX5_name_103 (by decide) ?_
          refine tr_bipush C (v := 110) dX5_name_105 (by decide) ?_
          refine tr_iconst C (v := 0) dX5_name_107 (by decide) ?_
          refine tr_iconst C (v := 0) dX5_name_108 (by decide) ?_
          refine tr_iconst C (v := 0) dX5_name_109 (by decide) ?_
          refine tr_iconst C (v := 0) dX5_name_110 (by decide) ?_
          refine tr_iconst C (v := 0) dX5_name_111 (by decide) ?_
          refine tr_cVIP C (av := [.int 107, .int 105, .int 110, .int 0, .int 0, .int 0, .int 0, .int 0]) (st := []) (kX5_isWord l g cs ad 107 105 110 0 0 0 0 0 σ) mwX5_isWord w1143 rfl rfl ⟨rfl, rfl⟩ ⟨(Nat.le_of_ble_eq_true rfl), (Nat.le_of_ble_eq_true rfl)⟩ rfl rfl (Nat.le_of_ble_eq_true rfl) dX5_name_112 (fun r5 hr5 => ?_)
          refine tr_if_eq C (tgt := 123) dX5_name_115 (by decide) (fun q9 => ?_) (fun q9 => ?_)
          · refine tr_aload_n C (i := 0) dX5_name_123 rfl rfl ?_
            refine tr_bipush C (v := 119) dX5_name_124 (by decide) ?_
            refine tr_bipush C (v := 101) dX5_name_126 (by decide) ?_
            refine tr_bipush C (v := 101) dX5_name_128 (by decide) ?_
            refine tr_bipush C (v := 107) dX5_name_130 (by decide) ?_
            refine tr_iconst C (v := 0) dX5_name_132 (by decide) ?_
            refine tr_iconst C (v := 0) dX5_name_133 (by decide) ?_
            refine tr_iconst C (v := 0) dX5_name_134 (by decide) ?_
            refine tr_iconst C (v := 0) dX5_name_135 (by decide) ?_
            refine tr_cVIP C (av := [.int 119, .int 101, .int 101, .int 107, .int 0, .int 0, .int 0, .int 0]) (st := []) (kX5_isWord l g cs ad 119 101 101 107 0 0 0 0 σ) mwX5_isWord w1143 rfl rfl ⟨rfl, rfl⟩ ⟨(Nat.le_of_ble_eq_true rfl), (Nat.le_of_ble_eq_true rfl)⟩ rfl rfl (Nat.le_of_ble_eq_true rfl) dX5_name_136 (fun r6 hr6 => ?_)
            refine tr_if_eq C (tgt := 147) dX5_name_139 (by decide) (fun q8 => ?_) (fun q8 => ?_)
            · refine tr_aload_n C (i := 0) dX5_name_147 rfl rfl ?_
              refine tr_cVV C (av := []) (st := []) (kX5_fail l g cs ad σ) mwX5_fail w1155 rfl rfl ⟨rfl, rfl⟩ ⟨(Nat.le_of_ble_eq_true rfl), (Nat.le_of_ble_eq_true rfl)⟩ rfl rfl (Nat.le_of_ble_eq_true rfl) dX5_name_148 (fun σ7 hr7 => ?_)
              refine tr_iconst C (v := 0) dX5_name_151 (by decide) ?_
              exact tr_iret C hr hlk dX5_name_152
            · refine tr_aload_n C (i := 0) dX5_name_142 rfl rfl ?_
              refine tr_getI C (k := 19) (ci := 5) rfl rfl rfl inT5 rfl (by decide) w967 dX5_name_143 ?_
              exact tr_iret C hr hlk dX5_name_146
          · refine tr_aload_n C (i := 0) dX5_name_118 rfl rfl ?_
            refine tr_getI C (k := 18) (ci := 5) rfl rfl rfl inT5 rfl (by decide) w966 dX5_name_119 ?_
            exact tr_iret C hr hlk dX5_name_122
        · refine tr_aload_n C (i := 0) dX5_name_95 rfl rfl ?_
          refine tr_getI C (k := 17) (ci := 5) rfl rfl rfl inT5 rfl (by decide) w965 dX5_name_96 ?_
          exact tr_iret C hr hlk dX5_name_99
      · refine tr_aload_n C (i := 0) dX5_name_69 rfl rfl ?_
        refine tr_getI C (k := 16) (ci := 5) rfl rfl rfl inT5 rfl (by decide) w964 dX5_name_70 ?_
        exact tr_iret C hr hlk dX5_name_73
    · refine tr_aload_n C (i := 0) dX5_name_46 rfl rfl ?_
      refine tr_getI C (k := 15) (ci := 5) rfl rfl rfl inT5 rfl (by decide) w963 dX5_name_47 ?_
      exact tr_iret C hr hlk dX5_name_50
  · refine tr_aload_n C (i := 0) dX5_name_20 rfl rfl ?_
    refine tr_getI C (k := 14) (ci := 5) rfl rfl rfl inT5 rfl (by decide) w962 dX5_name_21 ?_
    exact tr_iret C hr hlk dX5_name_24
def fX5_atom_b123 (rec : Nat → Mem → Option (Int32 × Mem)) (σ123 : Mem) (y1_123 : Int32) : Option (Int32 × Mem) :=
  if (σ123.1 0 27) = 0 then (
    if (σ123.1 0 23) = 1 then (
      bnd (fX5_name σ123) fun r5 σ5 => (
        if (σ5.1 0 27) = 0 then (
          bn1 (fX5_next σ5) fun σ6 => (
            some (r5, σ6)
          )
        ) else (
          some (r5, σ5)
        )
      )
    ) else (
      bn1 (fX5_fail σ123) fun σ4 => (
        some (y1_123, σ4)
      )
    )
  ) else (
    bn1 (fX5_fail σ123) fun σ3 => (
      some (y1_123, σ3)
    )
  )
def fX5_atom_b71 (rec : Nat → Mem → Option (Int32 × Mem)) (σ71 : Mem) (y1_71 : Int32) : Option (Int32 × Mem) :=
  stp (putI σ71 0 26 ((σ71.1 0 26) - 1)) fun σw16 => (
    if (σw16.1 0 27) = 0 then (
      bn1 (fX5_next σw16) fun σ17 => (
        some (y1_71, σ17)
      )
    ) else (
      some (y1_71, σw16)
    )
  )
def fX5_atom (rec : Nat → Mem → Option (Int32 × Mem)) (σ : Mem) : Option (Int32 × Mem) :=
  bn1 (fX5_isSign 45 σ) fun r1 => (
    if r1 = 0 then (
      bn1 (fX5_isSign 40 σ) fun r2 => (
        if r2 = 0 then (
          if (σ.1 0 27) = 0 then (
            if (σ.1 0 23) = 2 then (
              bn1 (fX5_next σ) fun σ10 => (
                some ((σ.2 0 25).toInt32, σ10)
              )
            ) else (
              fX5_atom_b123 rec σ 0
            )
          ) else (
            fX5_atom_b123 rec σ 0
          )
        ) else (
          bnd (fX5_opens σ) fun r13 σ13 => (
            if r13 = 0 then (
              some (0, σ13)
            ) else (
              bnd (rec 5 σ13) fun r14 σ14 => (
                bn1 (fX5_isSign 41 σ14) fun r15 => (
                  if r15 = 0 then (
                    bn1 (fX5_fail σ14) fun σ19 => (
                      fX5_atom_b71 rec σ19 r14
                    )
                  ) else (
                    fX5_atom_b71 rec σ14 r14
                  )
                )
              )
            )
          )
        )
      )
    ) else (
      bnd (fX5_opens σ) fun r23 σ23 => (
        if r23 = 0 then (
          some (0, σ23)
        ) else (
          bnd (rec 0 σ23) fun r24 σ24 => (
            stp (putI σ24 0 26 ((σ24.1 0 26) - 1)) fun σw25 => (
              some (-r24, σw25)
            )
          )
        )
      )
    )
  )
set_option maxHeartbeats 4000000 in
set_option maxRecDepth 100000 in
theorem kX5_atom (l : Launch) (g : GG) (cs : CS) (ad : Nat → Nat) (n : Nat) (rec : Nat → Mem → Option (Int32 × Mem)) (HR : (∀ σ : Mem, CtI l g cs ad (shM g) mX5_atom (.code mX5_atom cX5_atom 2 (some .int)) { frames := n + 8, cells := 0, slots := 0, locals := 40 * n + 200 } [.ref (ad 0)] σ (rec 0 σ)) ∧ (∀ σ : Mem, CtI l g cs ad (shM g) mX5_term (.code mX5_term cX5_term 2 (some .int)) { frames := n + 8, cells := 0, slots := 0, locals := 40 * n + 200 } [.ref (ad 0)] σ (rec 1 σ)) ∧ (∀ σ : Mem, CtI l g cs ad (shM g) mX5_added (.code mX5_added cX5_added 4 (some .int)) { frames := n + 8, cells := 0, slots := 0, locals := 40 * n + 200 } [.ref (ad 0)] σ (rec 2 σ)) ∧ (∀ σ : Mem, CtI l g cs ad (shM g) mX5_not (.code mX5_not cX5_not 4 (some .int)) { frames := n + 8, cells := 0, slots := 0, locals := 40 * n + 200 } [.ref (ad 0)] σ (rec 3 σ)) ∧ (∀ σ : Mem, CtI l g cs ad (shM g) mX5_both (.code mX5_both cX5_both 3 (some .int)) { frames := n + 8, cells := 0, slots := 0, locals := 40 * n + 200 } [.ref (ad 0)] σ (rec 4 σ)) ∧ (∀ σ : Mem, CtI l g cs ad (shM g) mX5_either (.code mX5_either cX5_either 3 (some .int)) { frames := n + 8, cells := 0, slots := 0, locals := 40 * n + 200 } [.ref (ad 0)] σ (rec 5 σ))) (σ : Mem) : CtI l g cs ad (shM g) mX5_atom (.code mX5_atom cX5_atom 2 (some .int)) { frames := n + 9, cells := 0, slots := 0, locals := 40 * n + 240 } [.ref (ad 0)] σ (fX5_atom rec σ) := by
  refine ctI_intro (own := "KinInTheHeapModel") (by decide +kernel) rfl [some (.ref (ad 0)), none] (Nat.le_of_ble_eq_true rfl) rfl ?_
  intro p e s m args below meth c A C hr hlk
  refine tr_iconst C (v := 0) dX5_atom_0 (by decide) ?_
  refine tr_istore_n C (i := 1) (lv' := [some (.ref (ad 0)), some (.int 0)]) dX5_atom_1 rfl (by decide) rfl ?_
  refine tr_aload_n C (i := 0) dX5_atom_2 rfl rfl ?_
  refine tr_bipush C (v := 45) dX5_atom_3 (by decide) ?_
  refine tr_cVIP C (av := [.int 45]) (st := []) (kX5_isSign l g cs ad 45 σ) mwX5_isSign w1187 rfl rfl ⟨rfl, rfl⟩ ⟨by dsimp only; omega, by dsimp only; omega⟩ rfl rfl (Nat.le_of_ble_eq_true rfl) dX5_atom_5 (fun r1 hr1 => ?_)
  refine tr_if_eq C (tgt := 37) dX5_atom_8 (by decide) (fun q27 => ?_) (fun q27 => ?_)
  · refine tr_aload_n C (i := 0) dX5_atom_37 rfl rfl ?_
    refine tr_bipush C (v := 40) dX5_atom_38 (by decide) ?_
    refine tr_cVIP C (av := [.int 40]) (st := []) (kX5_isSign l g cs ad 40 σ) mwX5_isSign w1187 rfl rfl ⟨rfl, rfl⟩ ⟨by dsimp only; omega, by dsimp only; omega⟩ rfl rfl (Nat.le_of_ble_eq_true rfl) dX5_atom_40 (fun r2 hr2 => ?_)
    refine tr_if_eq C (tgt := 95) dX5_atom_43 (by decide) (fun q22 => ?_) (fun q22 => ?_)
    · refine tr_aload_n C (i := 0) dX5_atom_95 rfl rfl ?_
      refine tr_getI C (k := 27) (ci := 5) rfl rfl rfl inT5 rfl (by decide) w975 dX5_atom_96 ?_
      have B123 : ∀ (σ123 : Mem) (y1_123 : Int32), Tr p l e { frames := n + 9, cells := 0, slots := 0, locals := 40 * n + 240 } s m args below meth c g ad (shM g) A 2 (QI g ad (shM g) A below args s) (fX5_atom_b123 rec σ123 y1_123) σ123 123 [some (.ref (ad 0)), some (.int y1_123)] [] := by
        intro σ123 y1_123
        refine tr_aload_n C (i := 0) dX5_atom_123 rfl rfl ?_
        refine tr_getI C (k := 27) (ci := 5) rfl rfl rfl inT5 rfl (by decide) w975 dX5_atom_124 ?_
        refine tr_if_ne C (tgt := 157) dX5_atom_127 (by decide) (fun q9 => ?_) (fun q9 => ?_)
        · refine tr_aload_n C (i := 0) dX5_atom_130 rfl rfl ?_
          refine tr_getI C (k := 23) (ci := 5) rfl rfl rfl inT5 rfl (by decide) w971 dX5_atom_131 ?_
          refine tr_iconst C (v := 1) dX5_atom_134 (by decide) ?_
          refine tr_icmp_ne C (tgt := 157) dX5_atom_135 (by decide) (fun q8 => ?_) (fun q8 => ?_)
          · refine tr_aload_n C (i := 0) dX5_atom_138 rfl rfl ?_
            refine tr_cVI C (av := []) (st := []) (kX5_name l g cs ad σ123) mwX5_name w1191 rfl rfl ⟨rfl, rfl⟩ ⟨by dsimp only; omega, by dsimp only; omega⟩ rfl rfl (Nat.le_of_ble_eq_true rfl) dX5_atom_139 (fun r5 σ5 hr5 => ?_)
            refine tr_istore_n C (i := 1) (lv' := [some (.ref (ad 0)), some (.int r5)]) dX5_atom_142 rfl (by decide) rfl ?_
            refine tr_aload_n C (i := 0) dX5_atom_143 rfl rfl ?_
            refine tr_getI C (k := 27) (ci := 5) rfl rfl rfl inT5 rfl (by decide) w975 dX5_atom_144 ?_
            refine tr_if_ne C (tgt := 161) dX5_atom_147 (by decide) (fun q7 => ?_) (fun q7 => ?_)
            · refine tr_aload_n C (i := 0) dX5_atom_150 rfl rfl ?_
              refine tr_cVV C (av := []) (st := []) (kX5_next l g cs ad σ5) mwX5_next w1131 rfl rfl ⟨rfl, rfl⟩ ⟨by dsimp only; omega, by dsimp only; omega⟩ rfl rfl (Nat.le_of_ble_eq_true rfl) dX5_atom_151 (fun σ6 hr6 => ?_)
              refine tr_goto C (tgt := 161) dX5_atom_154 (by decide) ?_
              refine tr_iload_n C (i := 1) dX5_atom_161 rfl rfl ?_
              exact tr_iret C hr hlk dX5_atom_162
            · refine tr_iload_n C (i := 1) dX5_atom_161 rfl rfl ?_
              exact tr_iret C hr hlk dX5_atom_162
          · refine tr_aload_n C (i := 0) dX5_atom_157 rfl rfl ?_
            refine tr_cVV C (av := []) (st := []) (kX5_fail l g cs ad σ123) mwX5_fail w1155 rfl rfl ⟨rfl, rfl⟩ ⟨by dsimp only; omega, by dsimp only; omega⟩ rfl rfl (Nat.le_of_ble_eq_true rfl) dX5_atom_158 (fun σ4 hr4 => ?_)
            refine tr_iload_n C (i := 1) dX5_atom_161 rfl rfl ?_
            exact tr_iret C hr hlk dX5_atom_162
        · refine tr_aload_n C (i := 0) dX5_atom_157 rfl rfl ?_
          refine tr_cVV C (av := []) (st := []) (kX5_fail l g cs ad σ123) mwX5_fail w1155 rfl rfl ⟨rfl, rfl⟩ ⟨by dsimp only; omega, by dsimp only; omega⟩ rfl rfl (Nat.le_of_ble_eq_true rfl) dX5_atom_158 (fun σ3 hr3 => ?_)
          refine tr_iload_n C (i := 1) dX5_atom_161 rfl rfl ?_
          exact tr_iret C hr hlk dX5_atom_162
      refine tr_if_ne C (tgt := 123) dX5_atom_99 (by decide) (fun q12 => ?_) (fun q12 => ?_)
      · refine tr_aload_n C (i := 0) dX5_atom_102 rfl rfl ?_
        refine tr_getI C (k := 23) (ci := 5) rfl rfl rfl inT5 rfl (by decide) w971 dX5_atom_103 ?_
        refine tr_iconst C (v := 2) dX5_atom_106 (by decide) ?_
        refine tr_icmp_ne C (tgt := 123) dX5_atom_107 (by decide) (fun q11 => ?_) (fun q11 => ?_)
        · refine tr_aload_n C (i := 0) dX5_atom_110 rfl rfl ?_
          refine tr_getL C (k := 25) (ci := 5) rfl rfl rfl inT5 rfl (by decide) w973 dX5_atom_111 ?_
          refine tr_l2i C dX5_atom_114 ?_
          refine tr_istore_n C (i := 1) (lv' := [some (.ref (ad 0)), some (.int ((σ.2 0 25).toInt32))]) dX5_atom_115 rfl (by decide) rfl ?_
          refine tr_aload_n C (i := 0) dX5_atom_116 rfl rfl ?_
          refine tr_cVV C (av := []) (st := []) (kX5_next l g cs ad σ) mwX5_next w1131 rfl rfl ⟨rfl, rfl⟩ ⟨by dsimp only; omega, by dsimp only; omega⟩ rfl rfl (Nat.le_of_ble_eq_true rfl) dX5_atom_117 (fun σ10 hr10 => ?_)
          refine tr_goto C (tgt := 161) dX5_atom_120 (by decide) ?_
          refine tr_iload_n C (i := 1) dX5_atom_161 rfl rfl ?_
          exact tr_iret C hr hlk dX5_atom_162
        · exact B123 σ 0
      · exact B123 σ 0
    · refine tr_aload_n C (i := 0) dX5_atom_46 rfl rfl ?_
      refine tr_cVI C (av := []) (st := []) (kX5_opens l g cs ad σ) mwX5_opens w1171 rfl rfl ⟨rfl, rfl⟩ ⟨by dsimp only; omega, by dsimp only; omega⟩ rfl rfl (Nat.le_of_ble_eq_true rfl) dX5_atom_47 (fun r13 σ13 hr13 => ?_)
      refine tr_if_eq C (tgt := 161) dX5_atom_50 (by decide) (fun q21 => ?_) (fun q21 => ?_)
      · refine tr_iload_n C (i := 1) dX5_atom_161 rfl rfl ?_
        exact tr_iret C hr hlk dX5_atom_162
      · refine tr_aload_n C (i := 0) dX5_atom_53 rfl rfl ?_
        refine tr_cVI C (av := []) (st := []) (HR.2.2.2.2.2 σ13) mwX5_either w1159 rfl rfl ⟨rfl, rfl⟩ ⟨by dsimp only; omega, by dsimp only; omega⟩ rfl rfl (Nat.le_of_ble_eq_true rfl) dX5_atom_54 (fun r14 σ14 hr14 => ?_)
        refine tr_istore_n C (i := 1) (lv' := [some (.ref (ad 0)), some (.int r14)]) dX5_atom_57 rfl (by decide) rfl ?_
        refine tr_aload_n C (i := 0) dX5_atom_58 rfl rfl ?_
        refine tr_bipush C (v := 41) dX5_atom_59 (by decide) ?_
        refine tr_cVIP C (av := [.int 41]) (st := []) (kX5_isSign l g cs ad 41 σ14) mwX5_isSign w1187 rfl rfl ⟨rfl, rfl⟩ ⟨by dsimp only; omega, by dsimp only; omega⟩ rfl rfl (Nat.le_of_ble_eq_true rfl) dX5_atom_61 (fun r15 hr15 => ?_)
        have B71 : ∀ (σ71 : Mem) (y1_71 : Int32), Tr p l e { frames := n + 9, cells := 0, slots := 0, locals := 40 * n + 240 } s m args below meth c g ad (shM g) A 2 (QI g ad (shM g) A below args s) (fX5_atom_b71 rec σ71 y1_71) σ71 71 [some (.ref (ad 0)), some (.int y1_71)] [] := by
          intro σ71 y1_71
          refine tr_aload_n C (i := 0) dX5_atom_71 rfl rfl ?_
          refine tr_dup C dX5_atom_72 rfl ?_
          refine tr_getI C (k := 26) (ci := 5) rfl rfl rfl inT5 rfl (by decide) w974 dX5_atom_73 ?_
          refine tr_iconst C (v := 1) dX5_atom_76 (by decide) ?_
          refine tr_isub C dX5_atom_77 ?_
          refine tr_putI C (k := 26) (ci := 5) (σ' := putI σ71 0 26 ((σ71.1 0 26) - 1)) rfl rfl rfl inT5 rfl (by decide) tyX5 tyX5_ok nmX5 rfl rfl w974 dX5_atom_78 rfl ?_
          refine tr_stp (fun σw16 eσw16 => ?_)
          refine tr_aload_n C (i := 0) dX5_atom_81 rfl rfl ?_
          refine tr_getI C (k := 27) (ci := 5) rfl rfl rfl inT5 rfl (by decide) w975 dX5_atom_82 ?_
          refine tr_if_ne C (tgt := 161) dX5_atom_85 (by decide) (fun q18 => ?_) (fun q18 => ?_)
          · refine tr_aload_n C (i := 0) dX5_atom_88 rfl rfl ?_
            refine tr_cVV C (av := []) (st := []) (kX5_next l g cs ad σw16) mwX5_next w1131 rfl rfl ⟨rfl, rfl⟩ ⟨by dsimp only; omega, by dsimp only; omega⟩ rfl rfl (Nat.le_of_ble_eq_true rfl) dX5_atom_89 (fun σ17 hr17 => ?_)
            refine tr_goto C (tgt := 161) dX5_atom_92 (by decide) ?_
            refine tr_iload_n C (i := 1) dX5_atom_161 rfl rfl ?_
            exact tr_iret C hr hlk dX5_atom_162
          · refine tr_iload_n C (i := 1) dX5_atom_161 rfl rfl ?_
            exact tr_iret C hr hlk dX5_atom_162
        refine tr_if_ne C (tgt := 71) dX5_atom_64 (by decide) (fun q20 => ?_) (fun q20 => ?_)
        · refine tr_aload_n C (i := 0) dX5_atom_67 rfl rfl ?_
          refine tr_cVV C (av := []) (st := []) (kX5_fail l g cs ad σ14) mwX5_fail w1155 rfl rfl ⟨rfl, rfl⟩ ⟨by dsimp only; omega, by dsimp only; omega⟩ rfl rfl (Nat.le_of_ble_eq_true rfl) dX5_atom_68 (fun σ19 hr19 => ?_)
          exact B71 σ19 r14
        · exact B71 σ14 r14
  · refine tr_aload_n C (i := 0) dX5_atom_11 rfl rfl ?_
    refine tr_cVI C (av := []) (st := []) (kX5_opens l g cs ad σ) mwX5_opens w1171 rfl rfl ⟨rfl, rfl⟩ ⟨by dsimp only; omega, by dsimp only; omega⟩ rfl rfl (Nat.le_of_ble_eq_true rfl) dX5_atom_12 (fun r23 σ23 hr23 => ?_)
    refine tr_if_eq C (tgt := 161) dX5_atom_15 (by decide) (fun q26 => ?_) (fun q26 => ?_)
    · refine tr_iload_n C (i := 1) dX5_atom_161 rfl rfl ?_
      exact tr_iret C hr hlk dX5_atom_162
    · refine tr_aload_n C (i := 0) dX5_atom_18 rfl rfl ?_
      refine tr_cVI C (av := []) (st := []) (HR.1 σ23) mwX5_atom w1183 rfl rfl ⟨rfl, rfl⟩ ⟨by dsimp only; omega, by dsimp only; omega⟩ rfl rfl (Nat.le_of_ble_eq_true rfl) dX5_atom_19 (fun r24 σ24 hr24 => ?_)
      refine tr_ineg C dX5_atom_22 ?_
      refine tr_istore_n C (i := 1) (lv' := [some (.ref (ad 0)), some (.int (-r24))]) dX5_atom_23 rfl (by decide) rfl ?_
      refine tr_aload_n C (i := 0) dX5_atom_24 rfl rfl ?_
      refine tr_dup C dX5_atom_25 rfl ?_
      refine tr_getI C (k := 26) (ci := 5) rfl rfl rfl inT5 rfl (by decide) w974 dX5_atom_26 ?_
      refine tr_iconst C (v := 1) dX5_atom_29 (by decide) ?_
      refine tr_isub C dX5_atom_30 ?_
      refine tr_putI C (k := 26) (ci := 5) (σ' := putI σ24 0 26 ((σ24.1 0 26) - 1)) rfl rfl rfl inT5 rfl (by decide) tyX5 tyX5_ok nmX5 rfl rfl w974 dX5_atom_31 rfl ?_
      refine tr_stp (fun σw25 eσw25 => ?_)
      refine tr_goto C (tgt := 161) dX5_atom_34 (by decide) ?_
      refine tr_iload_n C (i := 1) dX5_atom_161 rfl rfl ?_
      exact tr_iret C hr hlk dX5_atom_162
def fX5_term_L5 (rec : Nat → Mem → Option (Int32 × Mem)) (ih5 : Mem × Int32 → Option (Int32 × Mem)) : Mem × Int32 → Option (Int32 × Mem) := fun v => match v with
  | (σ5, y1_5) =>
    bn1 (fX5_isSign 42 σ5) fun r2 => (
      if r2 = 0 then (
        some (y1_5, σ5)
      ) else (
        bn1 (fX5_next σ5) fun σ3 => (
          bnd (rec 0 σ3) fun r4 σ4 => (
            ih5 (σ4, y1_5 * r4)
          )
        )
      )
    )
def fX5_term (rec : Nat → Mem → Option (Int32 × Mem)) (σ : Mem) : Option (Int32 × Mem) :=
  bnd (rec 0 σ) fun r1 σ1 => (
    loopN (fX5_term_L5 rec) 1000 (σ1, r1)
  )
set_option maxHeartbeats 4000000 in
set_option maxRecDepth 100000 in
theorem kX5_term (l : Launch) (g : GG) (cs : CS) (ad : Nat → Nat) (n : Nat) (rec : Nat → Mem → Option (Int32 × Mem)) (HR : (∀ σ : Mem, CtI l g cs ad (shM g) mX5_atom (.code mX5_atom cX5_atom 2 (some .int)) { frames := n + 8, cells := 0, slots := 0, locals := 40 * n + 200 } [.ref (ad 0)] σ (rec 0 σ)) ∧ (∀ σ : Mem, CtI l g cs ad (shM g) mX5_term (.code mX5_term cX5_term 2 (some .int)) { frames := n + 8, cells := 0, slots := 0, locals := 40 * n + 200 } [.ref (ad 0)] σ (rec 1 σ)) ∧ (∀ σ : Mem, CtI l g cs ad (shM g) mX5_added (.code mX5_added cX5_added 4 (some .int)) { frames := n + 8, cells := 0, slots := 0, locals := 40 * n + 200 } [.ref (ad 0)] σ (rec 2 σ)) ∧ (∀ σ : Mem, CtI l g cs ad (shM g) mX5_not (.code mX5_not cX5_not 4 (some .int)) { frames := n + 8, cells := 0, slots := 0, locals := 40 * n + 200 } [.ref (ad 0)] σ (rec 3 σ)) ∧ (∀ σ : Mem, CtI l g cs ad (shM g) mX5_both (.code mX5_both cX5_both 3 (some .int)) { frames := n + 8, cells := 0, slots := 0, locals := 40 * n + 200 } [.ref (ad 0)] σ (rec 4 σ)) ∧ (∀ σ : Mem, CtI l g cs ad (shM g) mX5_either (.code mX5_either cX5_either 3 (some .int)) { frames := n + 8, cells := 0, slots := 0, locals := 40 * n + 200 } [.ref (ad 0)] σ (rec 5 σ))) (σ : Mem) : CtI l g cs ad (shM g) mX5_term (.code mX5_term cX5_term 2 (some .int)) { frames := n + 9, cells := 0, slots := 0, locals := 40 * n + 240 } [.ref (ad 0)] σ (fX5_term rec σ) := by
  refine ctI_intro (own := "KinInTheHeapModel") (by decide +kernel) rfl [some (.ref (ad 0)), none] (Nat.le_of_ble_eq_true rfl) rfl ?_
  intro p e s m args below meth c A C hr hlk
  refine tr_aload_n C (i := 0) dX5_term_0 rfl rfl ?_
  refine tr_cVI C (av := []) (st := []) (HR.1 σ) mwX5_atom w1183 rfl rfl ⟨rfl, rfl⟩ ⟨by dsimp only; omega, by dsimp only; omega⟩ rfl rfl (Nat.le_of_ble_eq_true rfl) dX5_term_1 (fun r1 σ1 hr1 => ?_)
  refine tr_istore_n C (i := 1) (lv' := [some (.ref (ad 0)), some (.int r1)]) dX5_term_4 rfl (by decide) rfl ?_
  refine tr_loop (b := fX5_term_L5 rec) (sg := fun v => v.1) (lw := fun v => [some (.ref (ad 0)), some (.int v.2)]) (sw := fun v => []) (fun ih5 IH5 v => ?_) 1000 (σ1, r1)
  obtain ⟨σ5, y1_5⟩ := v
  refine tr_st (σ' := σ5) (lv' := [some (.ref (ad 0)), some (.int y1_5)]) (st' := []) rfl rfl rfl ?_
  refine tr_aload_n C (i := 0) dX5_term_5 rfl rfl ?_
  refine tr_bipush C (v := 42) dX5_term_6 (by decide) ?_
  refine tr_cVIP C (av := [.int 42]) (st := []) (kX5_isSign l g cs ad 42 σ5) mwX5_isSign w1187 rfl rfl ⟨rfl, rfl⟩ ⟨by dsimp only; omega, by dsimp only; omega⟩ rfl rfl (Nat.le_of_ble_eq_true rfl) dX5_term_8 (fun r2 hr2 => ?_)
  refine tr_if_eq C (tgt := 28) dX5_term_11 (by decide) (fun q5 => ?_) (fun q5 => ?_)
  · refine tr_iload_n C (i := 1) dX5_term_28 rfl rfl ?_
    exact tr_iret C hr hlk dX5_term_29
  · refine tr_aload_n C (i := 0) dX5_term_14 rfl rfl ?_
    refine tr_cVV C (av := []) (st := []) (kX5_next l g cs ad σ5) mwX5_next w1131 rfl rfl ⟨rfl, rfl⟩ ⟨by dsimp only; omega, by dsimp only; omega⟩ rfl rfl (Nat.le_of_ble_eq_true rfl) dX5_term_15 (fun σ3 hr3 => ?_)
    refine tr_iload_n C (i := 1) dX5_term_18 rfl rfl ?_
    refine tr_aload_n C (i := 0) dX5_term_19 rfl rfl ?_
    refine tr_cVI C (av := []) (st := [.int y1_5]) (HR.1 σ3) mwX5_atom w1183 rfl rfl ⟨rfl, rfl⟩ ⟨by dsimp only; omega, by dsimp only; omega⟩ rfl rfl (Nat.le_of_ble_eq_true rfl) dX5_term_20 (fun r4 σ4 hr4 => ?_)
    refine tr_imul C dX5_term_23 ?_
    refine tr_istore_n C (i := 1) (lv' := [some (.ref (ad 0)), some (.int (y1_5 * r4))]) dX5_term_24 rfl (by decide) rfl ?_
    refine tr_goto C (tgt := 5) dX5_term_25 (by decide) ?_
    exact IH5 (σ4, y1_5 * r4)
def fX5_added_b39 (rec : Nat → Mem → Option (Int32 × Mem)) (ih5 : Mem × Int32 → Option (Int32 × Mem)) (σ39 : Mem) (y1_39 : Int32) (z0_39 : Int32) : Option (Int32 × Mem) :=
  bn1 (fX5_next σ39) fun σ3 => (
    bnd (rec 1 σ3) fun r4 σ4 => (
      if z0_39 = 0 then (
        ih5 (σ4, y1_39 - r4)
      ) else (
        ih5 (σ4, y1_39 + r4)
      )
    )
  )
def fX5_added_b23 (rec : Nat → Mem → Option (Int32 × Mem)) (ih5 : Mem × Int32 → Option (Int32 × Mem)) (σ23 : Mem) (y1_23 : Int32) : Option (Int32 × Mem) :=
  if (lg_cmp (σ23.2 0 25) 43) = 0 then (
    fX5_added_b39 rec ih5 σ23 y1_23 1
  ) else (
    fX5_added_b39 rec ih5 σ23 y1_23 0
  )
def fX5_added_L5 (rec : Nat → Mem → Option (Int32 × Mem)) (ih5 : Mem × Int32 → Option (Int32 × Mem)) : Mem × Int32 → Option (Int32 × Mem) := fun v => match v with
  | (σ5, y1_5) =>
    bn1 (fX5_isSign 43 σ5) fun r2 => (
      if r2 = 0 then (
        bn1 (fX5_isSign 45 σ5) fun r7 => (
          if r7 = 0 then (
            some (y1_5, σ5)
          ) else (
            fX5_added_b23 rec ih5 σ5 y1_5
          )
        )
      ) else (
        fX5_added_b23 rec ih5 σ5 y1_5
      )
    )
def fX5_added (rec : Nat → Mem → Option (Int32 × Mem)) (σ : Mem) : Option (Int32 × Mem) :=
  bnd (rec 1 σ) fun r1 σ1 => (
    loopN (fX5_added_L5 rec) 1000 (σ1, r1)
  )
set_option maxHeartbeats 4000000 in
set_option maxRecDepth 100000 in
theorem kX5_added (l : Launch) (g : GG) (cs : CS) (ad : Nat → Nat) (n : Nat) (rec : Nat → Mem → Option (Int32 × Mem)) (HR : (∀ σ : Mem, CtI l g cs ad (shM g) mX5_atom (.code mX5_atom cX5_atom 2 (some .int)) { frames := n + 8, cells := 0, slots := 0, locals := 40 * n + 200 } [.ref (ad 0)] σ (rec 0 σ)) ∧ (∀ σ : Mem, CtI l g cs ad (shM g) mX5_term (.code mX5_term cX5_term 2 (some .int)) { frames := n + 8, cells := 0, slots := 0, locals := 40 * n + 200 } [.ref (ad 0)] σ (rec 1 σ)) ∧ (∀ σ : Mem, CtI l g cs ad (shM g) mX5_added (.code mX5_added cX5_added 4 (some .int)) { frames := n + 8, cells := 0, slots := 0, locals := 40 * n + 200 } [.ref (ad 0)] σ (rec 2 σ)) ∧ (∀ σ : Mem, CtI l g cs ad (shM g) mX5_not (.code mX5_not cX5_not 4 (some .int)) { frames := n + 8, cells := 0, slots := 0, locals := 40 * n + 200 } [.ref (ad 0)] σ (rec 3 σ)) ∧ (∀ σ : Mem, CtI l g cs ad (shM g) mX5_both (.code mX5_both cX5_both 3 (some .int)) { frames := n + 8, cells := 0, slots := 0, locals := 40 * n + 200 } [.ref (ad 0)] σ (rec 4 σ)) ∧ (∀ σ : Mem, CtI l g cs ad (shM g) mX5_either (.code mX5_either cX5_either 3 (some .int)) { frames := n + 8, cells := 0, slots := 0, locals := 40 * n + 200 } [.ref (ad 0)] σ (rec 5 σ))) (σ : Mem) : CtI l g cs ad (shM g) mX5_added (.code mX5_added cX5_added 4 (some .int)) { frames := n + 9, cells := 0, slots := 0, locals := 40 * n + 240 } [.ref (ad 0)] σ (fX5_added rec σ) := by
  refine ctI_intro (own := "KinInTheHeapModel") (by decide +kernel) rfl [some (.ref (ad 0)), none, none, none] (Nat.le_of_ble_eq_true rfl) rfl ?_
  intro p e s m args below meth c A C hr hlk
  refine tr_aload_n C (i := 0) dX5_added_0 rfl rfl ?_
  refine tr_cVI C (av := []) (st := []) (HR.2.1 σ) mwX5_term w1179 rfl rfl ⟨rfl, rfl⟩ ⟨by dsimp only; omega, by dsimp only; omega⟩ rfl rfl (Nat.le_of_ble_eq_true rfl) dX5_added_1 (fun r1 σ1 hr1 => ?_)
  refine tr_istore_n C (i := 1) (lv' := [some (.ref (ad 0)), some (.int r1), none, none]) dX5_added_4 rfl (by decide) rfl ?_
  refine tr_loop (b := fX5_added_L5 rec) (sg := fun v => v.1) (lw := fun v => [some (.ref (ad 0)), some (.int v.2), none, none]) (sw := fun v => []) (fun ih5 IH5 v => ?_) 1000 (σ1, r1)
  obtain ⟨σ5, y1_5⟩ := v
  refine tr_st (σ' := σ5) (lv' := [some (.ref (ad 0)), some (.int y1_5), none, none]) (st' := []) rfl rfl rfl ?_
  refine tr_aload_n C (i := 0) dX5_added_5 rfl rfl ?_
  refine tr_bipush C (v := 43) dX5_added_6 (by decide) ?_
  refine tr_cVIP C (av := [.int 43]) (st := []) (kX5_isSign l g cs ad 43 σ5) mwX5_isSign w1187 rfl rfl ⟨rfl, rfl⟩ ⟨by dsimp only; omega, by dsimp only; omega⟩ rfl rfl (Nat.le_of_ble_eq_true rfl) dX5_added_8 (fun r2 hr2 => ?_)
  have B23 : ∀ (σ23 : Mem) (y1_23 : Int32), Tr p l e { frames := n + 9, cells := 0, slots := 0, locals := 40 * n + 240 } s m args below meth c g ad (shM g) A 4 (QI g ad (shM g) A below args s) (fX5_added_b23 rec ih5 σ23 y1_23) σ23 23 [some (.ref (ad 0)), some (.int y1_23), none, none] [] := by
    intro σ23 y1_23
    refine tr_aload_n C (i := 0) dX5_added_23 rfl rfl ?_
    refine tr_getL C (k := 25) (ci := 5) rfl rfl rfl inT5 rfl (by decide) w973 dX5_added_24 ?_
    refine tr_ldc2 C (v := 43) w1195 dX5_added_27 ?_
    refine tr_lcmp C dX5_added_30 ?_
    have B39 : ∀ (σ39 : Mem) (y1_39 : Int32) (z0_39 : Int32), Tr p l e { frames := n + 9, cells := 0, slots := 0, locals := 40 * n + 240 } s m args below meth c g ad (shM g) A 4 (QI g ad (shM g) A below args s) (fX5_added_b39 rec ih5 σ39 y1_39 z0_39) σ39 39 [some (.ref (ad 0)), some (.int y1_39), none, none] [.int z0_39] := by
      intro σ39 y1_39 z0_39
      refine tr_istore_n C (i := 2) (lv' := [some (.ref (ad 0)), some (.int y1_39), some (.int z0_39), none]) dX5_added_39 rfl (by decide) rfl ?_
      refine tr_aload_n C (i := 0) dX5_added_40 rfl rfl ?_
      refine tr_cVV C (av := []) (st := []) (kX5_next l g cs ad σ39) mwX5_next w1131 rfl rfl ⟨rfl, rfl⟩ ⟨by dsimp only; omega, by dsimp only; omega⟩ rfl rfl (Nat.le_of_ble_eq_true rfl) dX5_added_41 (fun σ3 hr3 => ?_)
      refine tr_aload_n C (i := 0) dX5_added_44 rfl rfl ?_
      refine tr_cVI C (av := []) (st := []) (HR.2.1 σ3) mwX5_term w1179 rfl rfl ⟨rfl, rfl⟩ ⟨by dsimp only; omega, by dsimp only; omega⟩ rfl rfl (Nat.le_of_ble_eq_true rfl) dX5_added_45 (fun r4 σ4 hr4 => ?_)
      refine tr_istore_n C (i := 3) (lv' := [some (.ref (ad 0)), some (.int y1_39), some (.int z0_39), some (.int r4)]) dX5_added_48 rfl (by decide) rfl ?_
      refine tr_iload_n C (i := 2) dX5_added_49 rfl rfl ?_
      refine tr_if_eq C (tgt := 59) dX5_added_50 (by decide) (fun q5 => ?_) (fun q5 => ?_)
      · refine tr_iload_n C (i := 1) dX5_added_59 rfl rfl ?_
        refine tr_iload_n C (i := 3) dX5_added_60 rfl rfl ?_
        refine tr_isub C dX5_added_61 ?_
        refine tr_istore_n C (i := 1) (lv' := [some (.ref (ad 0)), some (.int (y1_39 - r4)), some (.int z0_39), some (.int r4)]) dX5_added_62 rfl (by decide) rfl ?_
        refine tr_goto C (tgt := 5) dX5_added_63 (by decide) ?_
        refine tr_mask [true, true, false, false] rfl ?_
        exact IH5 (σ4, y1_39 - r4)
      · refine tr_iload_n C (i := 1) dX5_added_53 rfl rfl ?_
        refine tr_iload_n C (i := 3) dX5_added_54 rfl rfl ?_
        refine tr_iadd C dX5_added_55 ?_
        refine tr_goto C (tgt := 62) dX5_added_56 (by decide) ?_
        refine tr_istore_n C (i := 1) (lv' := [some (.ref (ad 0)), some (.int (y1_39 + r4)), some (.int z0_39), some (.int r4)]) dX5_added_62 rfl (by decide) rfl ?_
        refine tr_goto C (tgt := 5) dX5_added_63 (by decide) ?_
        refine tr_mask [true, true, false, false] rfl ?_
        exact IH5 (σ4, y1_39 + r4)
    refine tr_if_ne C (tgt := 38) dX5_added_31 (by decide) (fun q6 => ?_) (fun q6 => ?_)
    · refine tr_iconst C (v := 1) dX5_added_34 (by decide) ?_
      refine tr_goto C (tgt := 39) dX5_added_35 (by decide) ?_
      exact B39 σ23 y1_23 1
    · refine tr_iconst C (v := 0) dX5_added_38 (by decide) ?_
      exact B39 σ23 y1_23 0
  refine tr_if_ne C (tgt := 23) dX5_added_11 (by decide) (fun q9 => ?_) (fun q9 => ?_)
  · refine tr_aload_n C (i := 0) dX5_added_14 rfl rfl ?_
    refine tr_bipush C (v := 45) dX5_added_15 (by decide) ?_
    refine tr_cVIP C (av := [.int 45]) (st := []) (kX5_isSign l g cs ad 45 σ5) mwX5_isSign w1187 rfl rfl ⟨rfl, rfl⟩ ⟨by dsimp only; omega, by dsimp only; omega⟩ rfl rfl (Nat.le_of_ble_eq_true rfl) dX5_added_17 (fun r7 hr7 => ?_)
    refine tr_if_eq C (tgt := 66) dX5_added_20 (by decide) (fun q8 => ?_) (fun q8 => ?_)
    · refine tr_iload_n C (i := 1) dX5_added_66 rfl rfl ?_
      exact tr_iret C hr hlk dX5_added_67
    · exact B23 σ5 y1_5
  · exact B23 σ5 y1_5
def fX5_not_b93 (rec : Nat → Mem → Option (Int32 × Mem)) (σ93 : Mem) (y1_93 : Int32) (z0_93 : Int32) : Option (Int32 × Mem) :=
  bn1 (fX5_next σ93) fun σ4 => (
    bnd (rec 2 σ4) fun r5 σ5 => (
      if z0_93 = 0 then (
        if y1_93 = r5 then (
          some (1, σ5)
        ) else (
          some (0, σ5)
        )
      ) else (
        if r5 ≤ y1_93 then (
          some (0, σ5)
        ) else (
          some (1, σ5)
        )
      )
    )
  )
def fX5_not_b77 (rec : Nat → Mem → Option (Int32 × Mem)) (σ77 : Mem) (y1_77 : Int32) : Option (Int32 × Mem) :=
  if (lg_cmp (σ77.2 0 25) 60) = 0 then (
    fX5_not_b93 rec σ77 y1_77 1
  ) else (
    fX5_not_b93 rec σ77 y1_77 0
  )
def fX5_not (rec : Nat → Mem → Option (Int32 × Mem)) (σ : Mem) : Option (Int32 × Mem) :=
  bn1 (fX5_isWord 110 111 116 0 0 0 0 0 σ) fun r1 => (
    if r1 = 0 then (
      bnd (rec 2 σ) fun r2 σ2 => (
        bn1 (fX5_isSign 60 σ2) fun r3 => (
          if r3 = 0 then (
            bn1 (fX5_isSign 61 σ2) fun r10 => (
              if r10 = 0 then (
                some (r2, σ2)
              ) else (
                fX5_not_b77 rec σ2 r2
              )
            )
          ) else (
            fX5_not_b77 rec σ2 r2
          )
        )
      )
    ) else (
      bnd (fX5_opens σ) fun r13 σ13 => (
        if r13 = 0 then (
          some (0, σ13)
        ) else (
          bnd (rec 3 σ13) fun r14 σ14 => (
            stp (putI σ14 0 26 ((σ14.1 0 26) - 1)) fun σw15 => (
              if r14 = 0 then (
                some (1, σw15)
              ) else (
                some (0, σw15)
              )
            )
          )
        )
      )
    )
  )
set_option maxHeartbeats 4000000 in
set_option maxRecDepth 100000 in
theorem kX5_not (l : Launch) (g : GG) (cs : CS) (ad : Nat → Nat) (n : Nat) (rec : Nat → Mem → Option (Int32 × Mem)) (HR : (∀ σ : Mem, CtI l g cs ad (shM g) mX5_atom (.code mX5_atom cX5_atom 2 (some .int)) { frames := n + 8, cells := 0, slots := 0, locals := 40 * n + 200 } [.ref (ad 0)] σ (rec 0 σ)) ∧ (∀ σ : Mem, CtI l g cs ad (shM g) mX5_term (.code mX5_term cX5_term 2 (some .int)) { frames := n + 8, cells := 0, slots := 0, locals := 40 * n + 200 } [.ref (ad 0)] σ (rec 1 σ)) ∧ (∀ σ : Mem, CtI l g cs ad (shM g) mX5_added (.code mX5_added cX5_added 4 (some .int)) { frames := n + 8, cells := 0, slots := 0, locals := 40 * n + 200 } [.ref (ad 0)] σ (rec 2 σ)) ∧ (∀ σ : Mem, CtI l g cs ad (shM g) mX5_not (.code mX5_not cX5_not 4 (some .int)) { frames := n + 8, cells := 0, slots := 0, locals := 40 * n + 200 } [.ref (ad 0)] σ (rec 3 σ)) ∧ (∀ σ : Mem, CtI l g cs ad (shM g) mX5_both (.code mX5_both cX5_both 3 (some .int)) { frames := n + 8, cells := 0, slots := 0, locals := 40 * n + 200 } [.ref (ad 0)] σ (rec 4 σ)) ∧ (∀ σ : Mem, CtI l g cs ad (shM g) mX5_either (.code mX5_either cX5_either 3 (some .int)) { frames := n + 8, cells := 0, slots := 0, locals := 40 * n + 200 } [.ref (ad 0)] σ (rec 5 σ))) (σ : Mem) : CtI l g cs ad (shM g) mX5_not (.code mX5_not cX5_not 4 (some .int)) { frames := n + 9, cells := 0, slots := 0, locals := 40 * n + 240 } [.ref (ad 0)] σ (fX5_not rec σ) := by
  refine ctI_intro (own := "KinInTheHeapModel") (by decide +kernel) rfl [some (.ref (ad 0)), none, none, none] (Nat.le_of_ble_eq_true rfl) rfl ?_
  intro p e s m args below meth c A C hr hlk
  refine tr_aload_n C (i := 0) dX5_not_0 rfl rfl ?_
  refine tr_bipush C (v := 110) dX5_not_1 (by decide) ?_
  refine tr_bipush C (v := 111) dX5_not_3 (by decide) ?_
  refine tr_bipush C (v := 116) dX5_not_5 (by decide) ?_
  refine tr_iconst C (v := 0) dX5_not_7 (by decide) ?_
  refine tr_iconst C (v := 0) dX5_not_8 (by decide) ?_
  refine tr_iconst C (v := 0) dX5_not_9 (by decide) ?_
  refine tr_iconst C (v := 0) dX5_not_10 (by decide) ?_
  refine tr_iconst C (v := 0) dX5_not_11 (by decide) ?_
  refine tr_cVIP C (av := [.int 110, .int 111, .int 116, .int 0, .int 0, .int 0, .int 0, .int 0]) (st := []) (kX5_isWord l g cs ad 110 111 116 0 0 0 0 0 σ) mwX5_isWord w1143 rfl rfl ⟨rfl, rfl⟩ ⟨by dsimp only; omega, by dsimp only; omega⟩ rfl rfl (Nat.le_of_ble_eq_true rfl) dX5_not_12 (fun r1 hr1 => ?_)
  refine tr_if_eq C (tgt := 52) dX5_not_15 (by decide) (fun q18 => ?_) (fun q18 => ?_)
  · refine tr_aload_n C (i := 0) dX5_not_52 rfl rfl ?_
    refine tr_cVI C (av := []) (st := []) (HR.2.2.1 σ) mwX5_added w1175 rfl rfl ⟨rfl, rfl⟩ ⟨by dsimp only; omega, by dsimp only; omega⟩ rfl rfl (Nat.le_of_ble_eq_true rfl) dX5_not_53 (fun r2 σ2 hr2 => ?_)
    refine tr_istore_n C (i := 1) (lv' := [some (.ref (ad 0)), some (.int r2), none, none]) dX5_not_56 rfl (by decide) rfl ?_
    refine tr_aload_n C (i := 0) dX5_not_57 rfl rfl ?_
    refine tr_bipush C (v := 60) dX5_not_58 (by decide) ?_
    refine tr_cVIP C (av := [.int 60]) (st := []) (kX5_isSign l g cs ad 60 σ2) mwX5_isSign w1187 rfl rfl ⟨rfl, rfl⟩ ⟨by dsimp only; omega, by dsimp only; omega⟩ rfl rfl (Nat.le_of_ble_eq_true rfl) dX5_not_60 (fun r3 hr3 => ?_)
    have B77 : ∀ (σ77 : Mem) (y1_77 : Int32), Tr p l e { frames := n + 9, cells := 0, slots := 0, locals := 40 * n + 240 } s m args below meth c g ad (shM g) A 4 (QI g ad (shM g) A below args s) (fX5_not_b77 rec σ77 y1_77) σ77 77 [some (.ref (ad 0)), some (.int y1_77), none, none] [] := by
      intro σ77 y1_77
      refine tr_aload_n C (i := 0) dX5_not_77 rfl rfl ?_
      refine tr_getL C (k := 25) (ci := 5) rfl rfl rfl inT5 rfl (by decide) w973 dX5_not_78 ?_
      refine tr_ldc2 C (v := 60) w1196 dX5_not_81 ?_
      refine tr_lcmp C dX5_not_84 ?_
      have B93 : ∀ (σ93 : Mem) (y1_93 : Int32) (z0_93 : Int32), Tr p l e { frames := n + 9, cells := 0, slots := 0, locals := 40 * n + 240 } s m args below meth c g ad (shM g) A 4 (QI g ad (shM g) A below args s) (fX5_not_b93 rec σ93 y1_93 z0_93) σ93 93 [some (.ref (ad 0)), some (.int y1_93), none, none] [.int z0_93] := by
        intro σ93 y1_93 z0_93
        refine tr_istore_n C (i := 2) (lv' := [some (.ref (ad 0)), some (.int y1_93), some (.int z0_93), none]) dX5_not_93 rfl (by decide) rfl ?_
        refine tr_aload_n C (i := 0) dX5_not_94 rfl rfl ?_
        refine tr_cVV C (av := []) (st := []) (kX5_next l g cs ad σ93) mwX5_next w1131 rfl rfl ⟨rfl, rfl⟩ ⟨by dsimp only; omega, by dsimp only; omega⟩ rfl rfl (Nat.le_of_ble_eq_true rfl) dX5_not_95 (fun σ4 hr4 => ?_)
        refine tr_aload_n C (i := 0) dX5_not_98 rfl rfl ?_
        refine tr_cVI C (av := []) (st := []) (HR.2.2.1 σ4) mwX5_added w1175 rfl rfl ⟨rfl, rfl⟩ ⟨by dsimp only; omega, by dsimp only; omega⟩ rfl rfl (Nat.le_of_ble_eq_true rfl) dX5_not_99 (fun r5 σ5 hr5 => ?_)
        refine tr_istore_n C (i := 3) (lv' := [some (.ref (ad 0)), some (.int y1_93), some (.int z0_93), some (.int r5)]) dX5_not_102 rfl (by decide) rfl ?_
        refine tr_iload_n C (i := 2) dX5_not_103 rfl rfl ?_
        refine tr_if_eq C (tgt := 115) dX5_not_104 (by decide) (fun q8 => ?_) (fun q8 => ?_)
        · refine tr_iload_n C (i := 1) dX5_not_115 rfl rfl ?_
          refine tr_iload_n C (i := 3) dX5_not_116 rfl rfl ?_
          refine tr_icmp_ne C (tgt := 124) dX5_not_117 (by decide) (fun q6 => ?_) (fun q6 => ?_)
          · refine tr_iconst C (v := 1) dX5_not_120 (by decide) ?_
            refine tr_goto C (tgt := 125) dX5_not_121 (by decide) ?_
            exact tr_iret C hr hlk dX5_not_125
          · refine tr_iconst C (v := 0) dX5_not_124 (by decide) ?_
            exact tr_iret C hr hlk dX5_not_125
        · refine tr_iload_n C (i := 1) dX5_not_107 rfl rfl ?_
          refine tr_iload_n C (i := 3) dX5_not_108 rfl rfl ?_
          refine tr_icmp_ge C (tgt := 124) dX5_not_109 (by decide) (fun q7 => ?_) (fun q7 => ?_)
          · refine tr_iconst C (v := 0) dX5_not_124 (by decide) ?_
            exact tr_iret C hr hlk dX5_not_125
          · refine tr_goto C (tgt := 120) dX5_not_112 (by decide) ?_
            refine tr_iconst C (v := 1) dX5_not_120 (by decide) ?_
            refine tr_goto C (tgt := 125) dX5_not_121 (by decide) ?_
            exact tr_iret C hr hlk dX5_not_125
      refine tr_if_ne C (tgt := 92) dX5_not_85 (by decide) (fun q9 => ?_) (fun q9 => ?_)
      · refine tr_iconst C (v := 1) dX5_not_88 (by decide) ?_
        refine tr_goto C (tgt := 93) dX5_not_89 (by decide) ?_
        exact B93 σ77 y1_77 1
      · refine tr_iconst C (v := 0) dX5_not_92 (by decide) ?_
        exact B93 σ77 y1_77 0
    refine tr_if_ne C (tgt := 77) dX5_not_63 (by decide) (fun q12 => ?_) (fun q12 => ?_)
    · refine tr_aload_n C (i := 0) dX5_not_66 rfl rfl ?_
      refine tr_bipush C (v := 61) dX5_not_67 (by decide) ?_
      refine tr_cVIP C (av := [.int 61]) (st := []) (kX5_isSign l g cs ad 61 σ2) mwX5_isSign w1187 rfl rfl ⟨rfl, rfl⟩ ⟨by dsimp only; omega, by dsimp only; omega⟩ rfl rfl (Nat.le_of_ble_eq_true rfl) dX5_not_69 (fun r10 hr10 => ?_)
      refine tr_if_ne C (tgt := 77) dX5_not_72 (by decide) (fun q11 => ?_) (fun q11 => ?_)
      · refine tr_iload_n C (i := 1) dX5_not_75 rfl rfl ?_
        exact tr_iret C hr hlk dX5_not_76
      · exact B77 σ2 r2
    · exact B77 σ2 r2
  · refine tr_aload_n C (i := 0) dX5_not_18 rfl rfl ?_
    refine tr_cVI C (av := []) (st := []) (kX5_opens l g cs ad σ) mwX5_opens w1171 rfl rfl ⟨rfl, rfl⟩ ⟨by dsimp only; omega, by dsimp only; omega⟩ rfl rfl (Nat.le_of_ble_eq_true rfl) dX5_not_19 (fun r13 σ13 hr13 => ?_)
    refine tr_if_ne C (tgt := 27) dX5_not_22 (by decide) (fun q17 => ?_) (fun q17 => ?_)
    · refine tr_iconst C (v := 0) dX5_not_25 (by decide) ?_
      exact tr_iret C hr hlk dX5_not_26
    · refine tr_aload_n C (i := 0) dX5_not_27 rfl rfl ?_
      refine tr_cVI C (av := []) (st := []) (HR.2.2.2.1 σ13) mwX5_not w1167 rfl rfl ⟨rfl, rfl⟩ ⟨by dsimp only; omega, by dsimp only; omega⟩ rfl rfl (Nat.le_of_ble_eq_true rfl) dX5_not_28 (fun r14 σ14 hr14 => ?_)
      refine tr_istore_n C (i := 1) (lv' := [some (.ref (ad 0)), some (.int r14), none, none]) dX5_not_31 rfl (by decide) rfl ?_
      refine tr_aload_n C (i := 0) dX5_not_32 rfl rfl ?_
      refine tr_dup C dX5_not_33 rfl ?_
      refine tr_getI C (k := 26) (ci := 5) rfl rfl rfl inT5 rfl (by decide) w974 dX5_not_34 ?_
      refine tr_iconst C (v := 1) dX5_not_37 (by decide) ?_
      refine tr_isub C dX5_not_38 ?_
      refine tr_putI C (k := 26) (ci := 5) (σ' := putI σ14 0 26 ((σ14.1 0 26) - 1)) rfl rfl rfl inT5 rfl (by decide) tyX5 tyX5_ok nmX5 rfl rfl w974 dX5_not_39 rfl ?_
      refine tr_stp (fun σw15 eσw15 => ?_)
      refine tr_iload_n C (i := 1) dX5_not_42 rfl rfl ?_
      refine tr_if_ne C (tgt := 50) dX5_not_43 (by decide) (fun q16 => ?_) (fun q16 => ?_)
      · refine tr_iconst C (v := 1) dX5_not_46 (by decide) ?_
        refine tr_goto C (tgt := 51) dX5_not_47 (by decide) ?_
        exact tr_iret C hr hlk dX5_not_51
      · refine tr_iconst C (v := 0) dX5_not_50 (by decide) ?_
        exact tr_iret C hr hlk dX5_not_51
def fX5_both_L5 (rec : Nat → Mem → Option (Int32 × Mem)) (ih5 : Mem × Int32 → Option (Int32 × Mem)) : Mem × Int32 → Option (Int32 × Mem) := fun v => match v with
  | (σ5, y1_5) =>
    bn1 (fX5_isWord 97 110 100 0 0 0 0 0 σ5) fun r2 => (
      if r2 = 0 then (
        some (y1_5, σ5)
      ) else (
        bn1 (fX5_next σ5) fun σ3 => (
          bnd (rec 3 σ3) fun r4 σ4 => (
            if y1_5 = 0 then (
              ih5 (σ4, 0)
            ) else (
              if r4 = 0 then (
                ih5 (σ4, 0)
              ) else (
                ih5 (σ4, 1)
              )
            )
          )
        )
      )
    )
def fX5_both (rec : Nat → Mem → Option (Int32 × Mem)) (σ : Mem) : Option (Int32 × Mem) :=
  bnd (rec 3 σ) fun r1 σ1 => (
    loopN (fX5_both_L5 rec) 1000 (σ1, r1)
  )
set_option maxHeartbeats 4000000 in
set_option maxRecDepth 100000 in
theorem kX5_both (l : Launch) (g : GG) (cs : CS) (ad : Nat → Nat) (n : Nat) (rec : Nat → Mem → Option (Int32 × Mem)) (HR : (∀ σ : Mem, CtI l g cs ad (shM g) mX5_atom (.code mX5_atom cX5_atom 2 (some .int)) { frames := n + 8, cells := 0, slots := 0, locals := 40 * n + 200 } [.ref (ad 0)] σ (rec 0 σ)) ∧ (∀ σ : Mem, CtI l g cs ad (shM g) mX5_term (.code mX5_term cX5_term 2 (some .int)) { frames := n + 8, cells := 0, slots := 0, locals := 40 * n + 200 } [.ref (ad 0)] σ (rec 1 σ)) ∧ (∀ σ : Mem, CtI l g cs ad (shM g) mX5_added (.code mX5_added cX5_added 4 (some .int)) { frames := n + 8, cells := 0, slots := 0, locals := 40 * n + 200 } [.ref (ad 0)] σ (rec 2 σ)) ∧ (∀ σ : Mem, CtI l g cs ad (shM g) mX5_not (.code mX5_not cX5_not 4 (some .int)) { frames := n + 8, cells := 0, slots := 0, locals := 40 * n + 200 } [.ref (ad 0)] σ (rec 3 σ)) ∧ (∀ σ : Mem, CtI l g cs ad (shM g) mX5_both (.code mX5_both cX5_both 3 (some .int)) { frames := n + 8, cells := 0, slots := 0, locals := 40 * n + 200 } [.ref (ad 0)] σ (rec 4 σ)) ∧ (∀ σ : Mem, CtI l g cs ad (shM g) mX5_either (.code mX5_either cX5_either 3 (some .int)) { frames := n + 8, cells := 0, slots := 0, locals := 40 * n + 200 } [.ref (ad 0)] σ (rec 5 σ))) (σ : Mem) : CtI l g cs ad (shM g) mX5_both (.code mX5_both cX5_both 3 (some .int)) { frames := n + 9, cells := 0, slots := 0, locals := 40 * n + 240 } [.ref (ad 0)] σ (fX5_both rec σ) := by
  refine ctI_intro (own := "KinInTheHeapModel") (by decide +kernel) rfl [some (.ref (ad 0)), none, none] (Nat.le_of_ble_eq_true rfl) rfl ?_
  intro p e s m args below meth c A C hr hlk
  refine tr_aload_n C (i := 0) dX5_both_0 rfl rfl ?_
  refine tr_cVI C (av := []) (st := []) (HR.2.2.2.1 σ) mwX5_not w1167 rfl rfl ⟨rfl, rfl⟩ ⟨by dsimp only; omega, by dsimp only; omega⟩ rfl rfl (Nat.le_of_ble_eq_true rfl) dX5_both_1 (fun r1 σ1 hr1 => ?_)
  refine tr_istore_n C (i := 1) (lv' := [some (.ref (ad 0)), some (.int r1), none]) dX5_both_4 rfl (by decide) rfl ?_
  refine tr_loop (b := fX5_both_L5 rec) (sg := fun v => v.1) (lw := fun v => [some (.ref (ad 0)), some (.int v.2), none]) (sw := fun v => []) (fun ih5 IH5 v => ?_) 1000 (σ1, r1)
  obtain ⟨σ5, y1_5⟩ := v
  refine tr_st (σ' := σ5) (lv' := [some (.ref (ad 0)), some (.int y1_5), none]) (st' := []) rfl rfl rfl ?_
  refine tr_aload_n C (i := 0) dX5_both_5 rfl rfl ?_
  refine tr_bipush C (v := 97) dX5_both_6 (by decide) ?_
  refine tr_bipush C (v := 110) dX5_both_8 (by decide) ?_
  refine tr_bipush C (v := 100) dX5_both_10 (by decide) ?_
  refine tr_iconst C (v := 0) dX5_both_12 (by decide) ?_
  refine tr_iconst C (v := 0) dX5_both_13 (by decide) ?_
  refine tr_iconst C (v := 0) dX5_both_14 (by decide) ?_
  refine tr_iconst C (v := 0) dX5_both_15 (by decide) ?_
  refine tr_iconst C (v := 0) dX5_both_16 (by decide) ?_
  refine tr_cVIP C (av := [.int 97, .int 110, .int 100, .int 0, .int 0, .int 0, .int 0, .int 0]) (st := []) (kX5_isWord l g cs ad 97 110 100 0 0 0 0 0 σ5) mwX5_isWord w1143 rfl rfl ⟨rfl, rfl⟩ ⟨by dsimp only; omega, by dsimp only; omega⟩ rfl rfl (Nat.le_of_ble_eq_true rfl) dX5_both_17 (fun r2 hr2 => ?_)
  refine tr_if_eq C (tgt := 49) dX5_both_20 (by decide) (fun q7 => ?_) (fun q7 => ?_)
  · refine tr_iload_n C (i := 1) dX5_both_49 rfl rfl ?_
    exact tr_iret C hr hlk dX5_both_50
  · refine tr_aload_n C (i := 0) dX5_both_23 rfl rfl ?_
    refine tr_cVV C (av := []) (st := []) (kX5_next l g cs ad σ5) mwX5_next w1131 rfl rfl ⟨rfl, rfl⟩ ⟨by dsimp only; omega, by dsimp only; omega⟩ rfl rfl (Nat.le_of_ble_eq_true rfl) dX5_both_24 (fun σ3 hr3 => ?_)
    refine tr_aload_n C (i := 0) dX5_both_27 rfl rfl ?_
    refine tr_cVI C (av := []) (st := []) (HR.2.2.2.1 σ3) mwX5_not w1167 rfl rfl ⟨rfl, rfl⟩ ⟨by dsimp only; omega, by dsimp only; omega⟩ rfl rfl (Nat.le_of_ble_eq_true rfl) dX5_both_28 (fun r4 σ4 hr4 => ?_)
    refine tr_istore_n C (i := 2) (lv' := [some (.ref (ad 0)), some (.int y1_5), some (.int r4)]) dX5_both_31 rfl (by decide) rfl ?_
    refine tr_iload_n C (i := 1) dX5_both_32 rfl rfl ?_
    refine tr_if_eq C (tgt := 44) dX5_both_33 (by decide) (fun q6 => ?_) (fun q6 => ?_)
    · refine tr_iconst C (v := 0) dX5_both_44 (by decide) ?_
      refine tr_istore_n C (i := 1) (lv' := [some (.ref (ad 0)), some (.int 0), some (.int r4)]) dX5_both_45 rfl (by decide) rfl ?_
      refine tr_goto C (tgt := 5) dX5_both_46 (by decide) ?_
      refine tr_mask [true, true, false] rfl ?_
      exact IH5 (σ4, 0)
    · refine tr_iload_n C (i := 2) dX5_both_36 rfl rfl ?_
      refine tr_if_eq C (tgt := 44) dX5_both_37 (by decide) (fun q5 => ?_) (fun q5 => ?_)
      · refine tr_iconst C (v := 0) dX5_both_44 (by decide) ?_
        refine tr_istore_n C (i := 1) (lv' := [some (.ref (ad 0)), some (.int 0), some (.int r4)]) dX5_both_45 rfl (by decide) rfl ?_
        refine tr_goto C (tgt := 5) dX5_both_46 (by decide) ?_
        refine tr_mask [true, true, false] rfl ?_
        exact IH5 (σ4, 0)
      · refine tr_iconst C (v := 1) dX5_both_40 (by decide) ?_
        refine tr_goto C (tgt := 45) dX5_both_41 (by decide) ?_
        refine tr_istore_n C (i := 1) (lv' := [some (.ref (ad 0)), some (.int 1), some (.int r4)]) dX5_both_45 rfl (by decide) rfl ?_
        refine tr_goto C (tgt := 5) dX5_both_46 (by decide) ?_
        refine tr_mask [true, true, false] rfl ?_
        exact IH5 (σ4, 1)
def fX5_either_L5 (rec : Nat → Mem → Option (Int32 × Mem)) (ih5 : Mem × Int32 → Option (Int32 × Mem)) : Mem × Int32 → Option (Int32 × Mem) := fun v => match v with
  | (σ5, y1_5) =>
    bn1 (fX5_isWord 111 114 0 0 0 0 0 0 σ5) fun r2 => (
      if r2 = 0 then (
        some (y1_5, σ5)
      ) else (
        bn1 (fX5_next σ5) fun σ3 => (
          bnd (rec 4 σ3) fun r4 σ4 => (
            if y1_5 = 0 then (
              if r4 = 0 then (
                ih5 (σ4, 0)
              ) else (
                ih5 (σ4, 1)
              )
            ) else (
              ih5 (σ4, 1)
            )
          )
        )
      )
    )
def fX5_either (rec : Nat → Mem → Option (Int32 × Mem)) (σ : Mem) : Option (Int32 × Mem) :=
  bnd (rec 4 σ) fun r1 σ1 => (
    loopN (fX5_either_L5 rec) 1000 (σ1, r1)
  )
set_option maxHeartbeats 4000000 in
set_option maxRecDepth 100000 in
theorem kX5_either (l : Launch) (g : GG) (cs : CS) (ad : Nat → Nat) (n : Nat) (rec : Nat → Mem → Option (Int32 × Mem)) (HR : (∀ σ : Mem, CtI l g cs ad (shM g) mX5_atom (.code mX5_atom cX5_atom 2 (some .int)) { frames := n + 8, cells := 0, slots := 0, locals := 40 * n + 200 } [.ref (ad 0)] σ (rec 0 σ)) ∧ (∀ σ : Mem, CtI l g cs ad (shM g) mX5_term (.code mX5_term cX5_term 2 (some .int)) { frames := n + 8, cells := 0, slots := 0, locals := 40 * n + 200 } [.ref (ad 0)] σ (rec 1 σ)) ∧ (∀ σ : Mem, CtI l g cs ad (shM g) mX5_added (.code mX5_added cX5_added 4 (some .int)) { frames := n + 8, cells := 0, slots := 0, locals := 40 * n + 200 } [.ref (ad 0)] σ (rec 2 σ)) ∧ (∀ σ : Mem, CtI l g cs ad (shM g) mX5_not (.code mX5_not cX5_not 4 (some .int)) { frames := n + 8, cells := 0, slots := 0, locals := 40 * n + 200 } [.ref (ad 0)] σ (rec 3 σ)) ∧ (∀ σ : Mem, CtI l g cs ad (shM g) mX5_both (.code mX5_both cX5_both 3 (some .int)) { frames := n + 8, cells := 0, slots := 0, locals := 40 * n + 200 } [.ref (ad 0)] σ (rec 4 σ)) ∧ (∀ σ : Mem, CtI l g cs ad (shM g) mX5_either (.code mX5_either cX5_either 3 (some .int)) { frames := n + 8, cells := 0, slots := 0, locals := 40 * n + 200 } [.ref (ad 0)] σ (rec 5 σ))) (σ : Mem) : CtI l g cs ad (shM g) mX5_either (.code mX5_either cX5_either 3 (some .int)) { frames := n + 9, cells := 0, slots := 0, locals := 40 * n + 240 } [.ref (ad 0)] σ (fX5_either rec σ) := by
  refine ctI_intro (own := "KinInTheHeapModel") (by decide +kernel) rfl [some (.ref (ad 0)), none, none] (Nat.le_of_ble_eq_true rfl) rfl ?_
  intro p e s m args below meth c A C hr hlk
  refine tr_aload_n C (i := 0) dX5_either_0 rfl rfl ?_
  refine tr_cVI C (av := []) (st := []) (HR.2.2.2.2.1 σ) mwX5_both w1163 rfl rfl ⟨rfl, rfl⟩ ⟨by dsimp only; omega, by dsimp only; omega⟩ rfl rfl (Nat.le_of_ble_eq_true rfl) dX5_either_1 (fun r1 σ1 hr1 => ?_)
  refine tr_istore_n C (i := 1) (lv' := [some (.ref (ad 0)), some (.int r1), none]) dX5_either_4 rfl (by decide) rfl ?_
  refine tr_loop (b := fX5_either_L5 rec) (sg := fun v => v.1) (lw := fun v => [some (.ref (ad 0)), some (.int v.2), none]) (sw := fun v => []) (fun ih5 IH5 v => ?_) 1000 (σ1, r1)
  obtain ⟨σ5, y1_5⟩ := v
  refine tr_st (σ' := σ5) (lv' := [some (.ref (ad 0)), some (.int y1_5), none]) (st' := []) rfl rfl rfl ?_
  refine tr_aload_n C (i := 0) dX5_either_5 rfl rfl ?_
  refine tr_bipush C (v := 111) dX5_either_6 (by decide) ?_
  refine tr_bipush C (v := 114) dX5_either_8 (by decide) ?_
  refine tr_iconst C (v := 0) dX5_either_10 (by decide) ?_
  refine tr_iconst C (v := 0) dX5_either_11 (by decide) ?_
  refine tr_iconst C (v := 0) dX5_either_12 (by decide) ?_
  refine tr_iconst C (v := 0) dX5_either_13 (by decide) ?_
  refine tr_iconst C (v := 0) dX5_either_14 (by decide) ?_
  refine tr_iconst C (v := 0) dX5_either_15 (by decide) ?_
  refine tr_cVIP C (av := [.int 111, .int 114, .int 0, .int 0, .int 0, .int 0, .int 0, .int 0]) (st := []) (kX5_isWord l g cs ad 111 114 0 0 0 0 0 0 σ5) mwX5_isWord w1143 rfl rfl ⟨rfl, rfl⟩ ⟨by dsimp only; omega, by dsimp only; omega⟩ rfl rfl (Nat.le_of_ble_eq_true rfl) dX5_either_16 (fun r2 hr2 => ?_)
  refine tr_if_eq C (tgt := 48) dX5_either_19 (by decide) (fun q7 => ?_) (fun q7 => ?_)
  · refine tr_iload_n C (i := 1) dX5_either_48 rfl rfl ?_
    exact tr_iret C hr hlk dX5_either_49
  · refine tr_aload_n C (i := 0) dX5_either_22 rfl rfl ?_
    refine tr_cVV C (av := []) (st := []) (kX5_next l g cs ad σ5) mwX5_next w1131 rfl rfl ⟨rfl, rfl⟩ ⟨by dsimp only; omega, by dsimp only; omega⟩ rfl rfl (Nat.le_of_ble_eq_true rfl) dX5_either_23 (fun σ3 hr3 => ?_)
    refine tr_aload_n C (i := 0) dX5_either_26 rfl rfl ?_
    refine tr_cVI C (av := []) (st := []) (HR.2.2.2.2.1 σ3) mwX5_both w1163 rfl rfl ⟨rfl, rfl⟩ ⟨by dsimp only; omega, by dsimp only; omega⟩ rfl rfl (Nat.le_of_ble_eq_true rfl) dX5_either_27 (fun r4 σ4 hr4 => ?_)
    refine tr_istore_n C (i := 2) (lv' := [some (.ref (ad 0)), some (.int y1_5), some (.int r4)]) dX5_either_30 rfl (by decide) rfl ?_
    refine tr_iload_n C (i := 1) dX5_either_31 rfl rfl ?_
    refine tr_if_ne C (tgt := 39) dX5_either_32 (by decide) (fun q6 => ?_) (fun q6 => ?_)
    · refine tr_iload_n C (i := 2) dX5_either_35 rfl rfl ?_
      refine tr_if_eq C (tgt := 43) dX5_either_36 (by decide) (fun q5 => ?_) (fun q5 => ?_)
      · refine tr_iconst C (v := 0) dX5_either_43 (by decide) ?_
        refine tr_istore_n C (i := 1) (lv' := [some (.ref (ad 0)), some (.int 0), some (.int r4)]) dX5_either_44 rfl (by decide) rfl ?_
        refine tr_goto C (tgt := 5) dX5_either_45 (by decide) ?_
        refine tr_mask [true, true, false] rfl ?_
        exact IH5 (σ4, 0)
      · refine tr_iconst C (v := 1) dX5_either_39 (by decide) ?_
        refine tr_goto C (tgt := 44) dX5_either_40 (by decide) ?_
        refine tr_istore_n C (i := 1) (lv' := [some (.ref (ad 0)), some (.int 1), some (.int r4)]) dX5_either_44 rfl (by decide) rfl ?_
        refine tr_goto C (tgt := 5) dX5_either_45 (by decide) ?_
        refine tr_mask [true, true, false] rfl ?_
        exact IH5 (σ4, 1)
    · refine tr_iconst C (v := 1) dX5_either_39 (by decide) ?_
      refine tr_goto C (tgt := 44) dX5_either_40 (by decide) ?_
      refine tr_istore_n C (i := 1) (lv' := [some (.ref (ad 0)), some (.int 1), some (.int r4)]) dX5_either_44 rfl (by decide) rfl ?_
      refine tr_goto C (tgt := 5) dX5_either_45 (by decide) ?_
      refine tr_mask [true, true, false] rfl ?_
      exact IH5 (σ4, 1)
def fX5_P : Nat → Nat → Mem → Option (Int32 × Mem)
  | 0, _, _ => none
  | n + 1, w, σ => if w = 0 then fX5_atom (fX5_P n) σ else if w = 1 then fX5_term (fX5_P n) σ else if w = 2 then fX5_added (fX5_P n) σ else if w = 3 then fX5_not (fX5_P n) σ else if w = 4 then fX5_both (fX5_P n) σ else fX5_either (fX5_P n) σ
theorem kX5_P (l : Launch) (g : GG) (cs : CS) (ad : Nat → Nat) : ∀ n : Nat, (∀ σ : Mem, CtI l g cs ad (shM g) mX5_atom (.code mX5_atom cX5_atom 2 (some .int)) { frames := n + 8, cells := 0, slots := 0, locals := 40 * n + 200 } [.ref (ad 0)] σ (fX5_P n 0 σ)) ∧ (∀ σ : Mem, CtI l g cs ad (shM g) mX5_term (.code mX5_term cX5_term 2 (some .int)) { frames := n + 8, cells := 0, slots := 0, locals := 40 * n + 200 } [.ref (ad 0)] σ (fX5_P n 1 σ)) ∧ (∀ σ : Mem, CtI l g cs ad (shM g) mX5_added (.code mX5_added cX5_added 4 (some .int)) { frames := n + 8, cells := 0, slots := 0, locals := 40 * n + 200 } [.ref (ad 0)] σ (fX5_P n 2 σ)) ∧ (∀ σ : Mem, CtI l g cs ad (shM g) mX5_not (.code mX5_not cX5_not 4 (some .int)) { frames := n + 8, cells := 0, slots := 0, locals := 40 * n + 200 } [.ref (ad 0)] σ (fX5_P n 3 σ)) ∧ (∀ σ : Mem, CtI l g cs ad (shM g) mX5_both (.code mX5_both cX5_both 3 (some .int)) { frames := n + 8, cells := 0, slots := 0, locals := 40 * n + 200 } [.ref (ad 0)] σ (fX5_P n 4 σ)) ∧ (∀ σ : Mem, CtI l g cs ad (shM g) mX5_either (.code mX5_either cX5_either 3 (some .int)) { frames := n + 8, cells := 0, slots := 0, locals := 40 * n + 200 } [.ref (ad 0)] σ (fX5_P n 5 σ))
  | 0 => ⟨(fun σ r h => absurd h (by simp [fX5_P])), (fun σ r h => absurd h (by simp [fX5_P])), (fun σ r h => absurd h (by simp [fX5_P])), (fun σ r h => absurd h (by simp [fX5_P])), (fun σ r h => absurd h (by simp [fX5_P])), (fun σ r h => absurd h (by simp [fX5_P]))⟩
  | n + 1 => by
    have HR := kX5_P l g cs ad n
    rw [show n + 1 + 8 = n + 9 from by omega, show 40 * (n + 1) + 200 = 40 * n + 240 from by omega]
    exact ⟨(fun σ => kX5_atom l g cs ad n (fX5_P n) HR σ), (fun σ => kX5_term l g cs ad n (fX5_P n) HR σ), (fun σ => kX5_added l g cs ad n (fX5_P n) HR σ), (fun σ => kX5_not l g cs ad n (fX5_P n) HR σ), (fun σ => kX5_both l g cs ad n (fX5_P n) HR σ), (fun σ => kX5_either l g cs ad n (fX5_P n) HR σ)⟩
