def fX4_setWeek (a1 : Int32) (σ : Mem) : Option (Int32 × Mem) :=
  bn1 (fX4_within a1 0 999 σ) fun r1 => (
    if r1 = 0 then (
      some (-1000, σ)
    ) else (
      stp (putI σ 40 4 a1) fun σw2 => (
        some (σ.1 40 4, σw2)
      )
    )
  )
set_option maxHeartbeats 4000000 in
set_option maxRecDepth 100000 in
theorem kX4_setWeek (l : Launch) (g : GG) (cs : CS) (ad : Nat → Nat) (a1 : Int32) (σ : Mem) : CtI l g cs ad (shC g) mX4_setWeek (.code mX4_setWeek cX4_setWeek 3 (some .int)) { frames := 1, cells := 0, slots := 0, locals := 22 } [.ref (ad 0), .int a1] σ (fX4_setWeek a1 σ) := by
  refine ctI_intro (own := "KinInTheHeap") (by decide +kernel) rfl [some (.ref (ad 0)), some (.int a1), none] (Nat.le_of_ble_eq_true rfl) rfl ?_
  intro p e s m args below meth c A C hr hlk
  refine tr_iload_n C (i := 1) dX4_setWeek_0 rfl rfl ?_
  refine tr_iconst C (v := 0) dX4_setWeek_1 (by decide) ?_
  refine tr_sipush C (v := 999) dX4_setWeek_2 (by decide) ?_
  refine tr_cSIP C (av := [.int a1, .int 0, .int 999]) (st := []) (kX4_within l g cs ad a1 0 999 σ) mwX4_within w300 ⟨rfl, rfl⟩ ⟨(Nat.le_of_ble_eq_true rfl), (Nat.le_of_ble_eq_true rfl)⟩ rfl rfl (Nat.le_of_ble_eq_true rfl) dX4_setWeek_5 (fun r1 hr1 => ?_)
  refine tr_if_ne C (tgt := 15) dX4_setWeek_8 (by decide) (fun q3 => ?_) (fun q3 => ?_)
  · refine tr_sipush C (v := -1000) dX4_setWeek_11 (by decide) ?_
    exact tr_iret C hr hlk dX4_setWeek_14
  · refine tr_aload_n C (i := 0) dX4_setWeek_15 rfl rfl ?_
    refine tr_getR C (k := 3) (ci := 4) rfl rfl rfl inT4 rfl (by decide) w267 dX4_setWeek_16 ?_
    refine tr_getI C (k := 4) (ci := 0) (fl_0 fl40) rfl rfl inT0 rfl (by decide) w231 dX4_setWeek_19 ?_
    refine tr_istore_n C (i := 2) (lv' := [some (.ref (ad 0)), some (.int a1), some (.int (σ.1 40 4))]) dX4_setWeek_22 rfl (by decide) rfl ?_
    refine tr_aload_n C (i := 0) dX4_setWeek_23 rfl rfl ?_
    refine tr_getR C (k := 3) (ci := 4) rfl rfl rfl inT4 rfl (by decide) w267 dX4_setWeek_24 ?_
    refine tr_iload_n C (i := 1) dX4_setWeek_27 rfl rfl ?_
    refine tr_putI C (k := 4) (ci := 0) (σ' := putI σ 40 4 a1) (fl_0 fl40) rfl rfl inT0 rfl (by decide) tyX0 tyX0_ok nmX0 rfl rfl w231 dX4_setWeek_28 rfl ?_
    refine tr_stp (fun σw2 eσw2 => ?_)
    refine tr_iload_n C (i := 2) dX4_setWeek_31 rfl rfl ?_
    exact tr_iret C hr hlk dX4_setWeek_32
def fX4_setForce (a1 : Int32) (σ : Mem) : Option (Int32 × Mem) :=
  bn1 (fX4_within a1 0 9 σ) fun r1 => (
    if r1 = 0 then (
      some (-1000, σ)
    ) else (
      stp (putI σ 40 5 a1) fun σw2 => (
        some (σ.1 40 5, σw2)
      )
    )
  )
set_option maxHeartbeats 4000000 in
set_option maxRecDepth 100000 in
theorem kX4_setForce (l : Launch) (g : GG) (cs : CS) (ad : Nat → Nat) (a1 : Int32) (σ : Mem) : CtI l g cs ad (shC g) mX4_setForce (.code mX4_setForce cX4_setForce 3 (some .int)) { frames := 1, cells := 0, slots := 0, locals := 22 } [.ref (ad 0), .int a1] σ (fX4_setForce a1 σ) := by
  refine ctI_intro (own := "KinInTheHeap") (by decide +kernel) rfl [some (.ref (ad 0)), some (.int a1), none] (Nat.le_of_ble_eq_true rfl) rfl ?_
  intro p e s m args below meth c A C hr hlk
  refine tr_iload_n C (i := 1) dX4_setForce_0 rfl rfl ?_
  refine tr_iconst C (v := 0) dX4_setForce_1 (by decide) ?_
  refine tr_bipush C (v := 9) dX4_setForce_2 (by decide) ?_
  refine tr_cSIP C (av := [.int a1, .int 0, .int 9]) (st := []) (kX4_within l g cs ad a1 0 9 σ) mwX4_within w300 ⟨rfl, rfl⟩ ⟨(Nat.le_of_ble_eq_true rfl), (Nat.le_of_ble_eq_true rfl)⟩ rfl rfl (Nat.le_of_ble_eq_true rfl) dX4_setForce_4 (fun r1 hr1 => ?_)
  refine tr_if_ne C (tgt := 14) dX4_setForce_7 (by decide) (fun q3 => ?_) (fun q3 => ?_)
  · refine tr_sipush C (v := -1000) dX4_setForce_10 (by decide) ?_
    exact tr_iret C hr hlk dX4_setForce_13
  · refine tr_aload_n C (i := 0) dX4_setForce_14 rfl rfl ?_
    refine tr_getR C (k := 3) (ci := 4) rfl rfl rfl inT4 rfl (by decide) w267 dX4_setForce_15 ?_
    refine tr_getI C (k := 5) (ci := 0) (fl_0 fl40) rfl rfl inT0 rfl (by decide) w233 dX4_setForce_18 ?_
    refine tr_istore_n C (i := 2) (lv' := [some (.ref (ad 0)), some (.int a1), some (.int (σ.1 40 5))]) dX4_setForce_21 rfl (by decide) rfl ?_
    refine tr_aload_n C (i := 0) dX4_setForce_22 rfl rfl ?_
    refine tr_getR C (k := 3) (ci := 4) rfl rfl rfl inT4 rfl (by decide) w267 dX4_setForce_23 ?_
    refine tr_iload_n C (i := 1) dX4_setForce_26 rfl rfl ?_
    refine tr_putI C (k := 5) (ci := 0) (σ' := putI σ 40 5 a1) (fl_0 fl40) rfl rfl inT0 rfl (by decide) tyX0 tyX0_ok nmX0 rfl rfl w233 dX4_setForce_27 rfl ?_
    refine tr_stp (fun σw2 eσw2 => ?_)
    refine tr_iload_n C (i := 2) dX4_setForce_30 rfl rfl ?_
    exact tr_iret C hr hlk dX4_setForce_31
def fX4_isCell (a1 : Int32) (σ : Mem) : Option (Int32) :=
  bn1 (fX4_within a1 0 35 σ) fun r1 => (
    gd (isB r1) (some r1)
  )
set_option maxHeartbeats 4000000 in
set_option maxRecDepth 100000 in
theorem kX4_isCell (l : Launch) (g : GG) (cs : CS) (ad : Nat → Nat) (a1 : Int32) (σ : Mem) : CtI l g cs ad (shC g) mX4_isCell (.code mX4_isCell cX4_isCell 1 (some .boolean)) { frames := 1, cells := 0, slots := 0, locals := 22 } [.int a1] σ (pur (fX4_isCell a1 σ) σ) := by
  refine ctIP_intro (own := "KinInTheHeap") (by decide +kernel) rfl [some (.int a1)] (Nat.le_of_ble_eq_true rfl) rfl ?_
  intro p e s m args below meth c A C hr hlk
  refine tr_iload_n C (i := 0) dX4_isCell_0 rfl rfl ?_
  refine tr_iconst C (v := 0) dX4_isCell_1 (by decide) ?_
  refine tr_bipush C (v := 35) dX4_isCell_2 (by decide) ?_
  refine tr_cSIP C (av := [.int a1, .int 0, .int 35]) (st := []) (kX4_within l g cs ad a1 0 35 σ) mwX4_within w300 ⟨rfl, rfl⟩ ⟨(Nat.le_of_ble_eq_true rfl), (Nat.le_of_ble_eq_true rfl)⟩ rfl rfl (Nat.le_of_ble_eq_true rfl) dX4_isCell_4 (fun r1 hr1 => ?_)
  exact tr_zretPG C hr hlk dX4_isCell_7
def fX4_setCrack_b36 (a1 : Int32) (a2 : Int32) (σ36 : Mem) (z0_36 : Int32) : Option (Int32 × Mem) :=
  if a2 = 1 then (
    stp (putL σ36 40 3 ((σ36.2 40 3) ||| (1 <<< (a1.toInt64 &&& 63)))) fun σw5 => (
      some (z0_36, σw5)
    )
  ) else (
    stp (putL σ36 40 3 ((σ36.2 40 3) &&& ((1 <<< (a1.toInt64 &&& 63)) ^^^ (-1)))) fun σw4 => (
      some (z0_36, σw4)
    )
  )
def fX4_setCrack (a1 : Int32) (a2 : Int32) (σ : Mem) : Option (Int32 × Mem) :=
  bn1 (fX4_isCell a1 σ) fun r1 => (
    if r1 = 0 then (
      some (-1000, σ)
    ) else (
      bn1 (fX4_within a2 0 1 σ) fun r2 => (
        if r2 = 0 then (
          some (-1000, σ)
        ) else (
          bn1 (fX0_isCracked 40 a1 σ) fun r3 => (
            if r3 = 0 then (
              fX4_setCrack_b36 a1 a2 σ 0
            ) else (
              fX4_setCrack_b36 a1 a2 σ 1
            )
          )
        )
      )
    )
  )
set_option maxHeartbeats 4000000 in
set_option maxRecDepth 100000 in
theorem kX4_setCrack (l : Launch) (g : GG) (cs : CS) (ad : Nat → Nat) (a1 : Int32) (a2 : Int32) (σ : Mem) : CtI l g cs ad (shC g) mX4_setCrack (.code mX4_setCrack cX4_setCrack 4 (some .int)) { frames := 2, cells := 0, slots := 0, locals := 42 } [.ref (ad 0), .int a1, .int a2] σ (fX4_setCrack a1 a2 σ) := by
  refine ctI_intro (own := "KinInTheHeap") (by decide +kernel) rfl [some (.ref (ad 0)), some (.int a1), some (.int a2), none] (Nat.le_of_ble_eq_true rfl) rfl ?_
  intro p e s m args below meth c A C hr hlk
  refine tr_iload_n C (i := 1) dX4_setCrack_0 rfl rfl ?_
  refine tr_cSIP C (av := [.int a1]) (st := []) (kX4_isCell l g cs ad a1 σ) mwX4_isCell w311 ⟨rfl, rfl⟩ ⟨(Nat.le_of_ble_eq_true rfl), (Nat.le_of_ble_eq_true rfl)⟩ rfl rfl (Nat.le_of_ble_eq_true rfl) dX4_setCrack_1 (fun r1 hr1 => ?_)
  refine tr_if_eq C (tgt := 16) dX4_setCrack_4 (by decide) (fun q9 => ?_) (fun q9 => ?_)
  · refine tr_sipush C (v := -1000) dX4_setCrack_16 (by decide) ?_
    exact tr_iret C hr hlk dX4_setCrack_19
  · refine tr_iload_n C (i := 2) dX4_setCrack_7 rfl rfl ?_
    refine tr_iconst C (v := 0) dX4_setCrack_8 (by decide) ?_
    refine tr_iconst C (v := 1) dX4_setCrack_9 (by decide) ?_
    refine tr_cSIP C (av := [.int a2, .int 0, .int 1]) (st := []) (kX4_within l g cs ad a2 0 1 σ) mwX4_within w300 ⟨rfl, rfl⟩ ⟨(Nat.le_of_ble_eq_true rfl), (Nat.le_of_ble_eq_true rfl)⟩ rfl rfl (Nat.le_of_ble_eq_true rfl) dX4_setCrack_10 (fun r2 hr2 => ?_)
    refine tr_if_ne C (tgt := 20) dX4_setCrack_13 (by decide) (fun q8 => ?_) (fun q8 => ?_)
    · refine tr_sipush C (v := -1000) dX4_setCrack_16 (by decide) ?_
      exact tr_iret C hr hlk dX4_setCrack_19
    · refine tr_aload_n C (i := 0) dX4_setCrack_20 rfl rfl ?_
      refine tr_getR C (k := 3) (ci := 4) rfl rfl rfl inT4 rfl (by decide) w267 dX4_setCrack_21 ?_
      refine tr_iload_n C (i := 1) dX4_setCrack_24 rfl rfl ?_
      refine tr_cVIP C (av := [.int a1]) (st := []) (kX0_isCracked l g cs ad 40 a1 fl40 σ) mwX0_isCracked w314 (fl_0 fl40) rfl ⟨rfl, rfl⟩ ⟨(Nat.le_of_ble_eq_true rfl), (Nat.le_of_ble_eq_true rfl)⟩ rfl rfl (Nat.le_of_ble_eq_true rfl) dX4_setCrack_25 (fun r3 hr3 => ?_)
      have B36 : ∀ (σ36 : Mem) (z0_36 : Int32), Tr p l e { frames := 2, cells := 0, slots := 0, locals := 42 } s m args below meth c g ad (shC g) A 4 (QI g ad (shC g) A below args s) (fX4_setCrack_b36 a1 a2 σ36 z0_36) σ36 36 [some (.ref (ad 0)), some (.int a1), some (.int a2), none] [.int z0_36] := by
        intro σ36 z0_36
        refine tr_istore_n C (i := 3) (lv' := [some (.ref (ad 0)), some (.int a1), some (.int a2), some (.int z0_36)]) dX4_setCrack_36 rfl (by decide) rfl ?_
        refine tr_aload_n C (i := 0) dX4_setCrack_37 rfl rfl ?_
        refine tr_getR C (k := 3) (ci := 4) rfl rfl rfl inT4 rfl (by decide) w267 dX4_setCrack_38 ?_
        refine tr_iload_n C (i := 2) dX4_setCrack_41 rfl rfl ?_
        refine tr_iconst C (v := 1) dX4_setCrack_42 (by decide) ?_
        refine tr_icmp_ne C (tgt := 60) dX4_setCrack_43 (by decide) (fun q6 => ?_) (fun q6 => ?_)
        · refine tr_aload_n C (i := 0) dX4_setCrack_46 rfl rfl ?_
          refine tr_getR C (k := 3) (ci := 4) rfl rfl rfl inT4 rfl (by decide) w267 dX4_setCrack_47 ?_
          refine tr_getL C (k := 3) (ci := 0) (fl_0 fl40) rfl rfl inT0 rfl (by decide) w229 dX4_setCrack_50 ?_
          refine tr_lconst C (v := 1) dX4_setCrack_53 (by decide) ?_
          refine tr_iload_n C (i := 1) dX4_setCrack_54 rfl rfl ?_
          refine tr_lshl C dX4_setCrack_55 ?_
          refine tr_lor C dX4_setCrack_56 ?_
          refine tr_goto C (tgt := 75) dX4_setCrack_57 (by decide) ?_
          refine tr_putL C (k := 3) (ci := 0) (σ' := putL σ36 40 3 ((σ36.2 40 3) ||| (1 <<< (a1.toInt64 &&& 63)))) (fl_0 fl40) rfl rfl inT0 rfl (by decide) tyX0 tyX0_ok nmX0 rfl rfl w229 dX4_setCrack_75 rfl ?_
          refine tr_stp (fun σw5 eσw5 => ?_)
          refine tr_iload_n C (i := 3) dX4_setCrack_78 rfl rfl ?_
          exact tr_iret C hr hlk dX4_setCrack_79
        · refine tr_aload_n C (i := 0) dX4_setCrack_60 rfl rfl ?_
          refine tr_getR C (k := 3) (ci := 4) rfl rfl rfl inT4 rfl (by decide) w267 dX4_setCrack_61 ?_
          refine tr_getL C (k := 3) (ci := 0) (fl_0 fl40) rfl rfl inT0 rfl (by decide) w229 dX4_setCrack_64 ?_
          refine tr_lconst C (v := 1) dX4_setCrack_67 (by decide) ?_
          refine tr_iload_n C (i := 1) dX4_setCrack_68 rfl rfl ?_
          refine tr_lshl C dX4_setCrack_69 ?_
          refine tr_ldc2 C (v := -1) w318 dX4_setCrack_70 ?_
          refine tr_lxor C dX4_setCrack_73 ?_
          refine tr_land C dX4_setCrack_74 ?_
          refine tr_putL C (k := 3) (ci := 0) (σ' := putL σ36 40 3 ((σ36.2 40 3) &&& ((1 <<< (a1.toInt64 &&& 63)) ^^^ (-1)))) (fl_0 fl40) rfl rfl inT0 rfl (by decide) tyX0 tyX0_ok nmX0 rfl rfl w229 dX4_setCrack_75 rfl ?_
          refine tr_stp (fun σw4 eσw4 => ?_)
          refine tr_iload_n C (i := 3) dX4_setCrack_78 rfl rfl ?_
          exact tr_iret C hr hlk dX4_setCrack_79
      refine tr_if_eq C (tgt := 35) dX4_setCrack_28 (by decide) (fun q7 => ?_) (fun q7 => ?_)
      · refine tr_iconst C (v := 0) dX4_setCrack_35 (by decide) ?_
        exact B36 σ 0
      · refine tr_iconst C (v := 1) dX4_setCrack_31 (by decide) ?_
        refine tr_goto C (tgt := 36) dX4_setCrack_32 (by decide) ?_
        exact B36 σ 1
def fX4_setNumber (a1 : Int32) (a2 : Int32) (σ : Mem) : Option (Int32 × Mem) :=
  bn1 (fX0_has 40 a1 σ) fun r1 => (
    if r1 = 0 then (
      some (-1000, σ)
    ) else (
      bn1 (fX4_within a2 0 9 σ) fun r2 => (
        if r2 = 0 then (
          some (-1000, σ)
        ) else (
          gd (inB a1 8) (
            gd (inB a1 8) (stp (wr σ 42 a1 a2) fun σw3 => (
              some (rd σ 42 a1, σw3)
            ))
          )
        )
      )
    )
  )
set_option maxHeartbeats 4000000 in
set_option maxRecDepth 100000 in
theorem kX4_setNumber (l : Launch) (g : GG) (cs : CS) (ad : Nat → Nat) (a1 : Int32) (a2 : Int32) (σ : Mem) : CtI l g cs ad (shC g) mX4_setNumber (.code mX4_setNumber cX4_setNumber 4 (some .int)) { frames := 2, cells := 0, slots := 0, locals := 43 } [.ref (ad 0), .int a1, .int a2] σ (fX4_setNumber a1 a2 σ) := by
  refine ctI_intro (own := "KinInTheHeap") (by decide +kernel) rfl [some (.ref (ad 0)), some (.int a1), some (.int a2), none] (Nat.le_of_ble_eq_true rfl) rfl ?_
  intro p e s m args below meth c A C hr hlk
  refine tr_aload_n C (i := 0) dX4_setNumber_0 rfl rfl ?_
  refine tr_getR C (k := 3) (ci := 4) rfl rfl rfl inT4 rfl (by decide) w267 dX4_setNumber_1 ?_
  refine tr_iload_n C (i := 1) dX4_setNumber_4 rfl rfl ?_
  refine tr_cVIP C (av := [.int a1]) (st := []) (kX0_has l g cs ad 40 a1 fl40 σ) mwX0_has w323 (fl_0 fl40) rfl ⟨rfl, rfl⟩ ⟨(Nat.le_of_ble_eq_true rfl), (Nat.le_of_ble_eq_true rfl)⟩ rfl rfl (Nat.le_of_ble_eq_true rfl) dX4_setNumber_5 (fun r1 hr1 => ?_)
  refine tr_if_eq C (tgt := 21) dX4_setNumber_8 (by decide) (fun q7 => ?_) (fun q7 => ?_)
  · refine tr_sipush C (v := -1000) dX4_setNumber_21 (by decide) ?_
    exact tr_iret C hr hlk dX4_setNumber_24
  · refine tr_iload_n C (i := 2) dX4_setNumber_11 rfl rfl ?_
    refine tr_iconst C (v := 0) dX4_setNumber_12 (by decide) ?_
    refine tr_bipush C (v := 9) dX4_setNumber_13 (by decide) ?_
    refine tr_cSIP C (av := [.int a2, .int 0, .int 9]) (st := []) (kX4_within l g cs ad a2 0 9 σ) mwX4_within w300 ⟨rfl, rfl⟩ ⟨(Nat.le_of_ble_eq_true rfl), (Nat.le_of_ble_eq_true rfl)⟩ rfl rfl (Nat.le_of_ble_eq_true rfl) dX4_setNumber_15 (fun r2 hr2 => ?_)
    refine tr_if_ne C (tgt := 25) dX4_setNumber_18 (by decide) (fun q6 => ?_) (fun q6 => ?_)
    · refine tr_sipush C (v := -1000) dX4_setNumber_21 (by decide) ?_
      exact tr_iret C hr hlk dX4_setNumber_24
    · refine tr_aload_n C (i := 0) dX4_setNumber_25 rfl rfl ?_
      refine tr_getR C (k := 3) (ci := 4) rfl rfl rfl inT4 rfl (by decide) w267 dX4_setNumber_26 ?_
      refine tr_getR C (k := 1) (ci := 0) (fl_0 fl40) rfl rfl inT0 rfl (by decide) w225 dX4_setNumber_29 ?_
      refine tr_iload_n C (i := 1) dX4_setNumber_32 rfl rfl ?_
      refine tr_iald C (n := 8) (fl_2 fl40) dX4_setNumber_33 (fun h5 => ?_)
      refine tr_istore_n C (i := 3) (lv' := [some (.ref (ad 0)), some (.int a1), some (.int a2), some (.int (rd σ 42 a1))]) dX4_setNumber_34 rfl (by decide) rfl ?_
      refine tr_aload_n C (i := 0) dX4_setNumber_35 rfl rfl ?_
      refine tr_getR C (k := 3) (ci := 4) rfl rfl rfl inT4 rfl (by decide) w267 dX4_setNumber_36 ?_
      refine tr_getR C (k := 1) (ci := 0) (fl_0 fl40) rfl rfl inT0 rfl (by decide) w225 dX4_setNumber_39 ?_
      refine tr_iload_n C (i := 1) dX4_setNumber_42 rfl rfl ?_
      refine tr_iload_n C (i := 2) dX4_setNumber_43 rfl rfl ?_
      refine tr_iast C (n := 8) (σ' := wr σ 42 a1 a2) (fl_2 fl40) dX4_setNumber_44 rfl (fun h4 => ?_)
      refine tr_stp (fun σw3 eσw3 => ?_)
      refine tr_iload_n C (i := 3) dX4_setNumber_45 rfl rfl ?_
      exact tr_iret C hr hlk dX4_setNumber_46
def fX4_setPlace (a1 : Int32) (a2 : Int32) (σ : Mem) : Option (Int32 × Mem) :=
  bn1 (fX0_has 40 a1 σ) fun r1 => (
    if r1 = 0 then (
      some (-1000, σ)
    ) else (
      if a2 = (-1) then (
        gd (inB a1 8) (
          gd (inB a1 8) (stp (wr σ 43 a1 a2) fun σw2 => (
            some (rd σ 43 a1, σw2)
          ))
        )
      ) else (
        bn1 (fX4_isCell a2 σ) fun r5 => (
          if r5 = 0 then (
            some (-1000, σ)
          ) else (
            gd (inB a1 8) (
              gd (inB a1 8) (stp (wr σ 43 a1 a2) fun σw6 => (
                some (rd σ 43 a1, σw6)
              ))
            )
          )
        )
      )
    )
  )
set_option maxHeartbeats 4000000 in
set_option maxRecDepth 100000 in
theorem kX4_setPlace (l : Launch) (g : GG) (cs : CS) (ad : Nat → Nat) (a1 : Int32) (a2 : Int32) (σ : Mem) : CtI l g cs ad (shC g) mX4_setPlace (.code mX4_setPlace cX4_setPlace 4 (some .int)) { frames := 2, cells := 0, slots := 0, locals := 43 } [.ref (ad 0), .int a1, .int a2] σ (fX4_setPlace a1 a2 σ) := by
  refine ctI_intro (own := "KinInTheHeap") (by decide +kernel) rfl [some (.ref (ad 0)), some (.int a1), some (.int a2), none] (Nat.le_of_ble_eq_true rfl) rfl ?_
  intro p e s m args below meth c A C hr hlk
  refine tr_aload_n C (i := 0) dX4_setPlace_0 rfl rfl ?_
  refine tr_getR C (k := 3) (ci := 4) rfl rfl rfl inT4 rfl (by decide) w267 dX4_setPlace_1 ?_
  refine tr_iload_n C (i := 1) dX4_setPlace_4 rfl rfl ?_
  refine tr_cVIP C (av := [.int a1]) (st := []) (kX0_has l g cs ad 40 a1 fl40 σ) mwX0_has w323 (fl_0 fl40) rfl ⟨rfl, rfl⟩ ⟨(Nat.le_of_ble_eq_true rfl), (Nat.le_of_ble_eq_true rfl)⟩ rfl rfl (Nat.le_of_ble_eq_true rfl) dX4_setPlace_5 (fun r1 hr1 => ?_)
  refine tr_if_eq C (tgt := 23) dX4_setPlace_8 (by decide) (fun q11 => ?_) (fun q11 => ?_)
  · refine tr_sipush C (v := -1000) dX4_setPlace_23 (by decide) ?_
    exact tr_iret C hr hlk dX4_setPlace_26
  · refine tr_iload_n C (i := 2) dX4_setPlace_11 rfl rfl ?_
    refine tr_iconst C (v := -1) dX4_setPlace_12 (by decide) ?_
    refine tr_icmp_eq C (tgt := 27) dX4_setPlace_13 (by decide) (fun q10 => ?_) (fun q10 => ?_)
    · refine tr_aload_n C (i := 0) dX4_setPlace_27 rfl rfl ?_
      refine tr_getR C (k := 3) (ci := 4) rfl rfl rfl inT4 rfl (by decide) w267 dX4_setPlace_28 ?_
      refine tr_getR C (k := 2) (ci := 0) (fl_0 fl40) rfl rfl inT0 rfl (by decide) w227 dX4_setPlace_31 ?_
      refine tr_iload_n C (i := 1) dX4_setPlace_34 rfl rfl ?_
      refine tr_iald C (n := 8) (fl_3 fl40) dX4_setPlace_35 (fun h4 => ?_)
      refine tr_istore_n C (i := 3) (lv' := [some (.ref (ad 0)), some (.int a1), some (.int a2), some (.int (rd σ 43 a1))]) dX4_setPlace_36 rfl (by decide) rfl ?_
      refine tr_aload_n C (i := 0) dX4_setPlace_37 rfl rfl ?_
      refine tr_getR C (k := 3) (ci := 4) rfl rfl rfl inT4 rfl (by decide) w267 dX4_setPlace_38 ?_
      refine tr_getR C (k := 2) (ci := 0) (fl_0 fl40) rfl rfl inT0 rfl (by decide) w227 dX4_setPlace_41 ?_
      refine tr_iload_n C (i := 1) dX4_setPlace_44 rfl rfl ?_
      refine tr_iload_n C (i := 2) dX4_setPlace_45 rfl rfl ?_
      refine tr_iast C (n := 8) (σ' := wr σ 43 a1 a2) (fl_3 fl40) dX4_setPlace_46 rfl (fun h3 => ?_)
      refine tr_stp (fun σw2 eσw2 => ?_)
      refine tr_iload_n C (i := 3) dX4_setPlace_47 rfl rfl ?_
      exact tr_iret C hr hlk dX4_setPlace_48
    · refine tr_iload_n C (i := 2) dX4_setPlace_16 rfl rfl ?_
      refine tr_cSIP C (av := [.int a2]) (st := []) (kX4_isCell l g cs ad a2 σ) mwX4_isCell w311 ⟨rfl, rfl⟩ ⟨(Nat.le_of_ble_eq_true rfl), (Nat.le_of_ble_eq_true rfl)⟩ rfl rfl (Nat.le_of_ble_eq_true rfl) dX4_setPlace_17 (fun r5 hr5 => ?_)
      refine tr_if_ne C (tgt := 27) dX4_setPlace_20 (by decide) (fun q9 => ?_) (fun q9 => ?_)
      · refine tr_sipush C (v := -1000) dX4_setPlace_23 (by decide) ?_
        exact tr_iret C hr hlk dX4_setPlace_26
      · refine tr_aload_n C (i := 0) dX4_setPlace_27 rfl rfl ?_
        refine tr_getR C (k := 3) (ci := 4) rfl rfl rfl inT4 rfl (by decide) w267 dX4_setPlace_28 ?_
        refine tr_getR C (k := 2) (ci := 0) (fl_0 fl40) rfl rfl inT0 rfl (by decide) w227 dX4_setPlace_31 ?_
        refine tr_iload_n C (i := 1) dX4_setPlace_34 rfl rfl ?_
        refine tr_iald C (n := 8) (fl_3 fl40) dX4_setPlace_35 (fun h8 => ?_)
        refine tr_istore_n C (i := 3) (lv' := [some (.ref (ad 0)), some (.int a1), some (.int a2), some (.int (rd σ 43 a1))]) dX4_setPlace_36 rfl (by decide) rfl ?_
        refine tr_aload_n C (i := 0) dX4_setPlace_37 rfl rfl ?_
        refine tr_getR C (k := 3) (ci := 4) rfl rfl rfl inT4 rfl (by decide) w267 dX4_setPlace_38 ?_
        refine tr_getR C (k := 2) (ci := 0) (fl_0 fl40) rfl rfl inT0 rfl (by decide) w227 dX4_setPlace_41 ?_
        refine tr_iload_n C (i := 1) dX4_setPlace_44 rfl rfl ?_
        refine tr_iload_n C (i := 2) dX4_setPlace_45 rfl rfl ?_
        refine tr_iast C (n := 8) (σ' := wr σ 43 a1 a2) (fl_3 fl40) dX4_setPlace_46 rfl (fun h7 => ?_)
        refine tr_stp (fun σw6 eσw6 => ?_)
        refine tr_iload_n C (i := 3) dX4_setPlace_47 rfl rfl ?_
        exact tr_iret C hr hlk dX4_setPlace_48
def fX4_set (a1 : Int32) (a2 : Int32) (a3 : Int32) (σ : Mem) : Option (Int32 × Mem) :=
  if a1 = 0 then (
    bnd (fX4_setWeek a3 σ) fun r10 σ10 => (
      some (r10, σ10)
    )
  ) else (
    if a1 = 1 then (
      bnd (fX4_setForce a3 σ) fun r9 σ9 => (
        some (r9, σ9)
      )
    ) else (
      if a1 = 2 then (
        bnd (fX4_setCrack a2 a3 σ) fun r8 σ8 => (
          some (r8, σ8)
        )
      ) else (
        if a1 = 3 then (
          bnd (fX4_setNumber a2 a3 σ) fun r7 σ7 => (
            some (r7, σ7)
          )
        ) else (
          if a1 = 4 then (
            bnd (fX4_setPlace a2 a3 σ) fun r6 σ6 => (
              some (r6, σ6)
            )
          ) else (
            some (-1000, σ)
          )
        )
      )
    )
  )
set_option maxHeartbeats 4000000 in
set_option maxRecDepth 100000 in
theorem kX4_set (l : Launch) (g : GG) (cs : CS) (ad : Nat → Nat) (a1 : Int32) (a2 : Int32) (a3 : Int32) (σ : Mem) : CtI l g cs ad (shC g) mX4_set (.code mX4_set cX4_set 4 (some .int)) { frames := 3, cells := 0, slots := 0, locals := 66 } [.ref (ad 0), .int a1, .int a2, .int a3] σ (fX4_set a1 a2 a3 σ) := by
  refine ctI_intro (own := "KinInTheHeap") (by decide +kernel) rfl [some (.ref (ad 0)), some (.int a1), some (.int a2), some (.int a3)] (Nat.le_of_ble_eq_true rfl) rfl ?_
  intro p e s m args below meth c A C hr hlk
  refine tr_iload_n C (i := 1) dX4_set_0 rfl rfl ?_
  refine tr_ite (fun q1 => ?_) (fun q1 => ?_)
  · refine tr_tin C (k := 0) (tgt := 36) dX4_set_1 q1 (by decide) (by decide) rfl (by decide) ?_
    refine tr_aload_n C (i := 0) dX4_set_36 rfl rfl ?_
    refine tr_iload_n C (i := 3) dX4_set_37 rfl rfl ?_
    refine tr_cVI C (av := [.int a3]) (st := []) (kX4_setWeek l g cs ad a3 σ) mwX4_setWeek w296 rfl rfl ⟨rfl, rfl⟩ ⟨(Nat.le_of_ble_eq_true rfl), (Nat.le_of_ble_eq_true rfl)⟩ rfl rfl (Nat.le_of_ble_eq_true rfl) dX4_set_38 (fun r10 σ10 hr10 => ?_)
    exact tr_iret C hr hlk dX4_set_41
  · refine tr_ite (fun q2 => ?_) (fun q2 => ?_)
    · refine tr_tin C (k := 1) (tgt := 42) dX4_set_1 q2 (by decide) (by decide) rfl (by decide) ?_
      refine tr_aload_n C (i := 0) dX4_set_42 rfl rfl ?_
      refine tr_iload_n C (i := 3) dX4_set_43 rfl rfl ?_
      refine tr_cVI C (av := [.int a3]) (st := []) (kX4_setForce l g cs ad a3 σ) mwX4_setForce w303 rfl rfl ⟨rfl, rfl⟩ ⟨(Nat.le_of_ble_eq_true rfl), (Nat.le_of_ble_eq_true rfl)⟩ rfl rfl (Nat.le_of_ble_eq_true rfl) dX4_set_44 (fun r9 σ9 hr9 => ?_)
      exact tr_iret C hr hlk dX4_set_47
    · refine tr_ite (fun q3 => ?_) (fun q3 => ?_)
      · refine tr_tin C (k := 2) (tgt := 48) dX4_set_1 q3 (by decide) (by decide) rfl (by decide) ?_
        refine tr_aload_n C (i := 0) dX4_set_48 rfl rfl ?_
        refine tr_iload_n C (i := 2) dX4_set_49 rfl rfl ?_
        refine tr_iload_n C (i := 3) dX4_set_50 rfl rfl ?_
        refine tr_cVI C (av := [.int a2, .int a3]) (st := []) (kX4_setCrack l g cs ad a2 a3 σ) mwX4_setCrack w307 rfl rfl ⟨rfl, rfl⟩ ⟨(Nat.le_of_ble_eq_true rfl), (Nat.le_of_ble_eq_true rfl)⟩ rfl rfl (Nat.le_of_ble_eq_true rfl) dX4_set_51 (fun r8 σ8 hr8 => ?_)
        exact tr_iret C hr hlk dX4_set_54
      · refine tr_ite (fun q4 => ?_) (fun q4 => ?_)
        · refine tr_tin C (k := 3) (tgt := 55) dX4_set_1 q4 (by decide) (by decide) rfl (by decide) ?_
          refine tr_aload_n C (i := 0) dX4_set_55 rfl rfl ?_
          refine tr_iload_n C (i := 2) dX4_set_56 rfl rfl ?_
          refine tr_iload_n C (i := 3) dX4_set_57 rfl rfl ?_
          refine tr_cVI C (av := [.int a2, .int a3]) (st := []) (kX4_setNumber l g cs ad a2 a3 σ) mwX4_setNumber w319 rfl rfl ⟨rfl, rfl⟩ ⟨(Nat.le_of_ble_eq_true rfl), (Nat.le_of_ble_eq_true rfl)⟩ rfl rfl (Nat.le_of_ble_eq_true rfl) dX4_set_58 (fun r7 σ7 hr7 => ?_)
          exact tr_iret C hr hlk dX4_set_61
        · refine tr_ite (fun q5 => ?_) (fun q5 => ?_)
          · refine tr_tin C (k := 4) (tgt := 62) dX4_set_1 q5 (by decide) (by decide) rfl (by decide) ?_
            refine tr_aload_n C (i := 0) dX4_set_62 rfl rfl ?_
            refine tr_iload_n C (i := 2) dX4_set_63 rfl rfl ?_
            refine tr_iload_n C (i := 3) dX4_set_64 rfl rfl ?_
            refine tr_cVI C (av := [.int a2, .int a3]) (st := []) (kX4_setPlace l g cs ad a2 a3 σ) mwX4_setPlace w328 rfl rfl ⟨rfl, rfl⟩ ⟨(Nat.le_of_ble_eq_true rfl), (Nat.le_of_ble_eq_true rfl)⟩ rfl rfl (Nat.le_of_ble_eq_true rfl) dX4_set_65 (fun r6 σ6 hr6 => ?_)
            exact tr_iret C hr hlk dX4_set_68
          · refine tr_tout C (tgt := 69) dX4_set_1 (by have eq1 := neI (0) q1 (by decide); have eq2 := neI (1) q2 (by decide); have eq3 := neI (2) q3 (by decide); have eq4 := neI (3) q4 (by decide); have eq5 := neI (4) q5 (by decide); omega) (by decide) ?_
            refine tr_sipush C (v := -1000) dX4_set_69 (by decide) ?_
            exact tr_iret C hr hlk dX4_set_72
def fX4_isDust (a1 : Int32) (a2 : Int32) (a3 : Int32) (σ : Mem) : Option (Int32) :=
  bn1 (fX4_within a1 0 5 σ) fun r1 => (
    if r1 = 0 then (
      some 0
    ) else (
      bn1 (fX4_within a2 0 9 σ) fun r2 => (
        if r2 = 0 then (
          some 0
        ) else (
          bn1 (fX4_isCell a3 σ) fun r3 => (
            if r3 = 0 then (
              some 0
            ) else (
              some 1
            )
          )
        )
      )
    )
  )
set_option maxHeartbeats 4000000 in
set_option maxRecDepth 100000 in
theorem kX4_isDust (l : Launch) (g : GG) (cs : CS) (ad : Nat → Nat) (a1 : Int32) (a2 : Int32) (a3 : Int32) (σ : Mem) : CtI l g cs ad (shC g) mX4_isDust (.code mX4_isDust cX4_isDust 3 (some .boolean)) { frames := 2, cells := 0, slots := 0, locals := 42 } [.int a1, .int a2, .int a3] σ (pur (fX4_isDust a1 a2 a3 σ) σ) := by
  refine ctIP_intro (own := "KinInTheHeap") (by decide +kernel) rfl [some (.int a1), some (.int a2), some (.int a3)] (Nat.le_of_ble_eq_true rfl) rfl ?_
  intro p e s m args below meth c A C hr hlk
  refine tr_iload_n C (i := 0) dX4_isDust_0 rfl rfl ?_
  refine tr_iconst C (v := 0) dX4_isDust_1 (by decide) ?_
  refine tr_iconst C (v := 5) dX4_isDust_2 (by decide) ?_
  refine tr_cSIP C (av := [.int a1, .int 0, .int 5]) (st := []) (kX4_within l g cs ad a1 0 5 σ) mwX4_within w300 ⟨rfl, rfl⟩ ⟨(Nat.le_of_ble_eq_true rfl), (Nat.le_of_ble_eq_true rfl)⟩ rfl rfl (Nat.le_of_ble_eq_true rfl) dX4_isDust_3 (fun r1 hr1 => ?_)
  refine tr_if_eq C (tgt := 30) dX4_isDust_6 (by decide) (fun q6 => ?_) (fun q6 => ?_)
  · refine tr_iconst C (v := 0) dX4_isDust_30 (by decide) ?_
    exact tr_zretP C hr hlk rfl dX4_isDust_31
  · refine tr_iload_n C (i := 1) dX4_isDust_9 rfl rfl ?_
    refine tr_iconst C (v := 0) dX4_isDust_10 (by decide) ?_
    refine tr_bipush C (v := 9) dX4_isDust_11 (by decide) ?_
    refine tr_cSIP C (av := [.int a2, .int 0, .int 9]) (st := []) (kX4_within l g cs ad a2 0 9 σ) mwX4_within w300 ⟨rfl, rfl⟩ ⟨(Nat.le_of_ble_eq_true rfl), (Nat.le_of_ble_eq_true rfl)⟩ rfl rfl (Nat.le_of_ble_eq_true rfl) dX4_isDust_13 (fun r2 hr2 => ?_)
    refine tr_if_eq C (tgt := 30) dX4_isDust_16 (by decide) (fun q5 => ?_) (fun q5 => ?_)
    · refine tr_iconst C (v := 0) dX4_isDust_30 (by decide) ?_
      exact tr_zretP C hr hlk rfl dX4_isDust_31
    · refine tr_iload_n C (i := 2) dX4_isDust_19 rfl rfl ?_
      refine tr_cSIP C (av := [.int a3]) (st := []) (kX4_isCell l g cs ad a3 σ) mwX4_isCell w311 ⟨rfl, rfl⟩ ⟨(Nat.le_of_ble_eq_true rfl), (Nat.le_of_ble_eq_true rfl)⟩ rfl rfl (Nat.le_of_ble_eq_true rfl) dX4_isDust_20 (fun r3 hr3 => ?_)
      refine tr_if_eq C (tgt := 30) dX4_isDust_23 (by decide) (fun q4 => ?_) (fun q4 => ?_)
      · refine tr_iconst C (v := 0) dX4_isDust_30 (by decide) ?_
        exact tr_zretP C hr hlk rfl dX4_isDust_31
      · refine tr_iconst C (v := 1) dX4_isDust_26 (by decide) ?_
        refine tr_goto C (tgt := 31) dX4_isDust_27 (by decide) ?_
        exact tr_zretP C hr hlk rfl dX4_isDust_31
def fX4_dust (a1 : Int32) (a2 : Int32) (a3 : Int32) (σ : Mem) : Option (Int32 × Mem) :=
  bn1 (fX4_isDust a1 a2 a3 σ) fun r1 => (
    if r1 = 0 then (
      some (-2, σ)
    ) else (
      bnd (fX0_add 40 a1 a2 a3 σ) fun r2 σ2 => (
        if r2 = 0 then (
          some (-4, σ2)
        ) else (
          some ((σ2.1 40 7) - 1, σ2)
        )
      )
    )
  )
set_option maxHeartbeats 4000000 in
set_option maxRecDepth 100000 in
theorem kX4_dust (l : Launch) (g : GG) (cs : CS) (ad : Nat → Nat) (a1 : Int32) (a2 : Int32) (a3 : Int32) (σ : Mem) : CtI l g cs ad (shC g) mX4_dust (.code mX4_dust cX4_dust 4 (some .int)) { frames := 3, cells := 0, slots := 0, locals := 64 } [.ref (ad 0), .int a1, .int a2, .int a3] σ (fX4_dust a1 a2 a3 σ) := by
  refine ctI_intro (own := "KinInTheHeap") (by decide +kernel) rfl [some (.ref (ad 0)), some (.int a1), some (.int a2), some (.int a3)] (Nat.le_of_ble_eq_true rfl) rfl ?_
  intro p e s m args below meth c A C hr hlk
  refine tr_iload_n C (i := 1) dX4_dust_0 rfl rfl ?_
  refine tr_iload_n C (i := 2) dX4_dust_1 rfl rfl ?_
  refine tr_iload_n C (i := 3) dX4_dust_2 rfl rfl ?_
  refine tr_cSIP C (av := [.int a1, .int a2, .int a3]) (st := []) (kX4_isDust l g cs ad a1 a2 a3 σ) mwX4_isDust w336 ⟨rfl, rfl⟩ ⟨(Nat.le_of_ble_eq_true rfl), (Nat.le_of_ble_eq_true rfl)⟩ rfl rfl (Nat.le_of_ble_eq_true rfl) dX4_dust_3 (fun r1 hr1 => ?_)
  refine tr_if_ne C (tgt := 12) dX4_dust_6 (by decide) (fun q4 => ?_) (fun q4 => ?_)
  · refine tr_bipush C (v := -2) dX4_dust_9 (by decide) ?_
    exact tr_iret C hr hlk dX4_dust_11
  · refine tr_aload_n C (i := 0) dX4_dust_12 rfl rfl ?_
    refine tr_getR C (k := 3) (ci := 4) rfl rfl rfl inT4 rfl (by decide) w267 dX4_dust_13 ?_
    refine tr_iload_n C (i := 1) dX4_dust_16 rfl rfl ?_
    refine tr_iload_n C (i := 2) dX4_dust_17 rfl rfl ?_
    refine tr_iload_n C (i := 3) dX4_dust_18 rfl rfl ?_
    refine tr_cVI C (av := [.int a1, .int a2, .int a3]) (st := []) (kX0_add l g cs ad 40 a1 a2 a3 fl40 σ) mwX0_add w339 (fl_0 fl40) rfl ⟨rfl, rfl⟩ ⟨(Nat.le_of_ble_eq_true rfl), (Nat.le_of_ble_eq_true rfl)⟩ rfl rfl (Nat.le_of_ble_eq_true rfl) dX4_dust_19 (fun r2 σ2 hr2 => ?_)
    refine tr_if_eq C (tgt := 37) dX4_dust_22 (by decide) (fun q3 => ?_) (fun q3 => ?_)
    · refine tr_bipush C (v := -4) dX4_dust_37 (by decide) ?_
      exact tr_iret C hr hlk dX4_dust_39
    · refine tr_aload_n C (i := 0) dX4_dust_25 rfl rfl ?_
      refine tr_getR C (k := 3) (ci := 4) rfl rfl rfl inT4 rfl (by decide) w267 dX4_dust_26 ?_
      refine tr_getI C (k := 7) (ci := 0) (fl_0 fl40) rfl rfl inT0 rfl (by decide) w237 dX4_dust_29 ?_
      refine tr_iconst C (v := 1) dX4_dust_32 (by decide) ?_
      refine tr_isub C dX4_dust_33 ?_
      refine tr_goto C (tgt := 39) dX4_dust_34 (by decide) ?_
      exact tr_iret C hr hlk dX4_dust_39
def fX4_toldOfCell (a1 : Int32) (a2 : Int32) (σ : Mem) : Option (Int32) :=
  bn1 (fX4_isCell a1 σ) fun r1 => (
    if r1 = 0 then (
      some (-1000)
    ) else (
      if a2 = 10 then (
        bn1 (fX0_thoseIn 40 a1 σ) fun r4 => (
          some r4
        )
      ) else (
        bn1 (fX0_isCracked 40 a1 σ) fun r2 => (
          if r2 = 0 then (
            some 0
          ) else (
            some 1
          )
        )
      )
    )
  )
set_option maxHeartbeats 4000000 in
set_option maxRecDepth 100000 in
theorem kX4_toldOfCell (l : Launch) (g : GG) (cs : CS) (ad : Nat → Nat) (a1 : Int32) (a2 : Int32) (σ : Mem) : CtI l g cs ad (shC g) mX4_toldOfCell (.code mX4_toldOfCell cX4_toldOfCell 3 (some .int)) { frames := 2, cells := 0, slots := 0, locals := 42 } [.ref (ad 0), .int a1, .int a2] σ (pur (fX4_toldOfCell a1 a2 σ) σ) := by
  refine ctIP_intro (own := "KinInTheHeap") (by decide +kernel) rfl [some (.ref (ad 0)), some (.int a1), some (.int a2)] (Nat.le_of_ble_eq_true rfl) rfl ?_
  intro p e s m args below meth c A C hr hlk
  refine tr_iload_n C (i := 1) dX4_toldOfCell_0 rfl rfl ?_
  refine tr_cSIP C (av := [.int a1]) (st := []) (kX4_isCell l g cs ad a1 σ) mwX4_isCell w311 ⟨rfl, rfl⟩ ⟨(Nat.le_of_ble_eq_true rfl), (Nat.le_of_ble_eq_true rfl)⟩ rfl rfl (Nat.le_of_ble_eq_true rfl) dX4_toldOfCell_1 (fun r1 hr1 => ?_)
  refine tr_if_ne C (tgt := 11) dX4_toldOfCell_4 (by decide) (fun q6 => ?_) (fun q6 => ?_)
  · refine tr_sipush C (v := -1000) dX4_toldOfCell_7 (by decide) ?_
    exact tr_iretP C hr hlk dX4_toldOfCell_10
  · refine tr_iload_n C (i := 2) dX4_toldOfCell_11 rfl rfl ?_
    refine tr_bipush C (v := 10) dX4_toldOfCell_12 (by decide) ?_
    refine tr_icmp_ne C (tgt := 26) dX4_toldOfCell_14 (by decide) (fun q5 => ?_) (fun q5 => ?_)
    · refine tr_aload_n C (i := 0) dX4_toldOfCell_17 rfl rfl ?_
      refine tr_getR C (k := 3) (ci := 4) rfl rfl rfl inT4 rfl (by decide) w267 dX4_toldOfCell_18 ?_
      refine tr_iload_n C (i := 1) dX4_toldOfCell_21 rfl rfl ?_
      refine tr_cVIP C (av := [.int a1]) (st := []) (kX0_thoseIn l g cs ad 40 a1 fl40 σ) mwX0_thoseIn w351 (fl_0 fl40) rfl ⟨rfl, rfl⟩ ⟨(Nat.le_of_ble_eq_true rfl), (Nat.le_of_ble_eq_true rfl)⟩ rfl rfl (Nat.le_of_ble_eq_true rfl) dX4_toldOfCell_22 (fun r4 hr4 => ?_)
      exact tr_iretP C hr hlk dX4_toldOfCell_25
    · refine tr_aload_n C (i := 0) dX4_toldOfCell_26 rfl rfl ?_
      refine tr_getR C (k := 3) (ci := 4) rfl rfl rfl inT4 rfl (by decide) w267 dX4_toldOfCell_27 ?_
      refine tr_iload_n C (i := 1) dX4_toldOfCell_30 rfl rfl ?_
      refine tr_cVIP C (av := [.int a1]) (st := []) (kX0_isCracked l g cs ad 40 a1 fl40 σ) mwX0_isCracked w314 (fl_0 fl40) rfl ⟨rfl, rfl⟩ ⟨(Nat.le_of_ble_eq_true rfl), (Nat.le_of_ble_eq_true rfl)⟩ rfl rfl (Nat.le_of_ble_eq_true rfl) dX4_toldOfCell_31 (fun r2 hr2 => ?_)
      refine tr_if_eq C (tgt := 41) dX4_toldOfCell_34 (by decide) (fun q3 => ?_) (fun q3 => ?_)
      · refine tr_iconst C (v := 0) dX4_toldOfCell_41 (by decide) ?_
        exact tr_iretP C hr hlk dX4_toldOfCell_42
      · refine tr_iconst C (v := 1) dX4_toldOfCell_37 (by decide) ?_
        refine tr_goto C (tgt := 42) dX4_toldOfCell_38 (by decide) ?_
        exact tr_iretP C hr hlk dX4_toldOfCell_42
def fX4_toldOfDust (a1 : Int32) (a2 : Int32) (σ : Mem) : Option (Int32) :=
  if a2 = 3 then (
    gd (inB a1 8) (
      some (rd σ 42 a1)
    )
  ) else (
    if a2 = 4 then (
      gd (inB a1 8) (
        some (rd σ 43 a1)
      )
    ) else (
      if a2 = 5 then (
        gd (inB a1 8) (
          some (rd σ 41 a1)
        )
      ) else (
        gd (inB a1 8) (
          bn1 (fX0_thoseIn 40 (rd σ 43 a1) σ) fun r1 => (
            some r1
          )
        )
      )
    )
  )
set_option maxHeartbeats 4000000 in
set_option maxRecDepth 100000 in
theorem kX4_toldOfDust (l : Launch) (g : GG) (cs : CS) (ad : Nat → Nat) (a1 : Int32) (a2 : Int32) (σ : Mem) : CtI l g cs ad (shC g) mX4_toldOfDust (.code mX4_toldOfDust cX4_toldOfDust 3 (some .int)) { frames := 1, cells := 0, slots := 0, locals := 23 } [.ref (ad 0), .int a1, .int a2] σ (pur (fX4_toldOfDust a1 a2 σ) σ) := by
  refine ctIP_intro (own := "KinInTheHeap") (by decide +kernel) rfl [some (.ref (ad 0)), some (.int a1), some (.int a2)] (Nat.le_of_ble_eq_true rfl) rfl ?_
  intro p e s m args below meth c A C hr hlk
  refine tr_iload_n C (i := 2) dX4_toldOfDust_0 rfl rfl ?_
  refine tr_ite (fun q3 => ?_) (fun q3 => ?_)
  · refine tr_tin C (k := 3) (tgt := 28) dX4_toldOfDust_1 q3 (by decide) (by decide) rfl (by decide) ?_
    refine tr_aload_n C (i := 0) dX4_toldOfDust_28 rfl rfl ?_
    refine tr_getR C (k := 3) (ci := 4) rfl rfl rfl inT4 rfl (by decide) w267 dX4_toldOfDust_29 ?_
    refine tr_getR C (k := 1) (ci := 0) (fl_0 fl40) rfl rfl inT0 rfl (by decide) w225 dX4_toldOfDust_32 ?_
    refine tr_iload_n C (i := 1) dX4_toldOfDust_35 rfl rfl ?_
    refine tr_iald C (n := 8) (fl_2 fl40) dX4_toldOfDust_36 (fun h8 => ?_)
    exact tr_iretP C hr hlk dX4_toldOfDust_37
  · refine tr_ite (fun q4 => ?_) (fun q4 => ?_)
    · refine tr_tin C (k := 4) (tgt := 38) dX4_toldOfDust_1 q4 (by decide) (by decide) rfl (by decide) ?_
      refine tr_aload_n C (i := 0) dX4_toldOfDust_38 rfl rfl ?_
      refine tr_getR C (k := 3) (ci := 4) rfl rfl rfl inT4 rfl (by decide) w267 dX4_toldOfDust_39 ?_
      refine tr_getR C (k := 2) (ci := 0) (fl_0 fl40) rfl rfl inT0 rfl (by decide) w227 dX4_toldOfDust_42 ?_
      refine tr_iload_n C (i := 1) dX4_toldOfDust_45 rfl rfl ?_
      refine tr_iald C (n := 8) (fl_3 fl40) dX4_toldOfDust_46 (fun h7 => ?_)
      exact tr_iretP C hr hlk dX4_toldOfDust_47
    · refine tr_ite (fun q5 => ?_) (fun q5 => ?_)
      · refine tr_tin C (k := 5) (tgt := 48) dX4_toldOfDust_1 q5 (by decide) (by decide) rfl (by decide) ?_
        refine tr_aload_n C (i := 0) dX4_toldOfDust_48 rfl rfl ?_
        refine tr_getR C (k := 3) (ci := 4) rfl rfl rfl inT4 rfl (by decide) w267 dX4_toldOfDust_49 ?_
        refine tr_getR C (k := 0) (ci := 0) (fl_0 fl40) rfl rfl inT0 rfl (by decide) w223 dX4_toldOfDust_52 ?_
        refine tr_iload_n C (i := 1) dX4_toldOfDust_55 rfl rfl ?_
        refine tr_iald C (n := 8) (fl_1 fl40) dX4_toldOfDust_56 (fun h6 => ?_)
        exact tr_iretP C hr hlk dX4_toldOfDust_57
      · refine tr_tout C (tgt := 58) dX4_toldOfDust_1 (by have eq3 := neI (3) q3 (by decide); have eq4 := neI (4) q4 (by decide); have eq5 := neI (5) q5 (by decide); omega) (by decide) ?_
        refine tr_aload_n C (i := 0) dX4_toldOfDust_58 rfl rfl ?_
        refine tr_getR C (k := 3) (ci := 4) rfl rfl rfl inT4 rfl (by decide) w267 dX4_toldOfDust_59 ?_
        refine tr_aload_n C (i := 0) dX4_toldOfDust_62 rfl rfl ?_
        refine tr_getR C (k := 3) (ci := 4) rfl rfl rfl inT4 rfl (by decide) w267 dX4_toldOfDust_63 ?_
        refine tr_getR C (k := 2) (ci := 0) (fl_0 fl40) rfl rfl inT0 rfl (by decide) w227 dX4_toldOfDust_66 ?_
        refine tr_iload_n C (i := 1) dX4_toldOfDust_69 rfl rfl ?_
        refine tr_iald C (n := 8) (fl_3 fl40) dX4_toldOfDust_70 (fun h2 => ?_)
        refine tr_cVIP C (av := [.int (rd σ 43 a1)]) (st := []) (kX0_thoseIn l g cs ad 40 (rd σ 43 a1) fl40 σ) mwX0_thoseIn w351 (fl_0 fl40) rfl ⟨rfl, rfl⟩ ⟨(Nat.le_of_ble_eq_true rfl), (Nat.le_of_ble_eq_true rfl)⟩ rfl rfl (Nat.le_of_ble_eq_true rfl) dX4_toldOfDust_71 (fun r1 hr1 => ?_)
        exact tr_iretP C hr hlk dX4_toldOfDust_74
def fX4_toldOfGoing (a1 : Int32) (a2 : Int32) (σ : Mem) : Option (Int32 × Mem) :=
  bn1 (fX0_isIn 40 a1 σ) fun r1 => (
    if r1 = 0 then (
      some (-1, σ)
    ) else (
      if a2 = 7 then (
        bnd (fX0_far 40 a1 σ) fun r7 σ7 => (
          some (r7, σ7)
        )
      ) else (
        if a2 = 8 then (
          bnd (fX0_isFree 40 a1 σ) fun r5 σ5 => (
            if r5 = 0 then (
              some (0, σ5)
            ) else (
              some (1, σ5)
            )
          )
        ) else (
          bnd (fX0_way 40 a1 σ) fun r4 σ4 => (
            some (r4, σ4)
          )
        )
      )
    )
  )
set_option maxHeartbeats 4000000 in
set_option maxRecDepth 100000 in
theorem kX4_toldOfGoing (l : Launch) (g : GG) (cs : CS) (ad : Nat → Nat) (a1 : Int32) (a2 : Int32) (σ : Mem) : CtI l g cs ad (shC g) mX4_toldOfGoing (.code mX4_toldOfGoing cX4_toldOfGoing 3 (some .int)) { frames := 3, cells := 0, slots := 0, locals := 71 } [.ref (ad 0), .int a1, .int a2] σ (fX4_toldOfGoing a1 a2 σ) := by
  refine ctI_intro (own := "KinInTheHeap") (by decide +kernel) rfl [some (.ref (ad 0)), some (.int a1), some (.int a2)] (Nat.le_of_ble_eq_true rfl) rfl ?_
  intro p e s m args below meth c A C hr hlk
  refine tr_aload_n C (i := 0) dX4_toldOfGoing_0 rfl rfl ?_
  refine tr_getR C (k := 3) (ci := 4) rfl rfl rfl inT4 rfl (by decide) w267 dX4_toldOfGoing_1 ?_
  refine tr_iload_n C (i := 1) dX4_toldOfGoing_4 rfl rfl ?_
  refine tr_cVIP C (av := [.int a1]) (st := []) (kX0_isIn l g cs ad 40 a1 fl40 σ) mwX0_isIn w363 (fl_0 fl40) rfl ⟨rfl, rfl⟩ ⟨(Nat.le_of_ble_eq_true rfl), (Nat.le_of_ble_eq_true rfl)⟩ rfl rfl (Nat.le_of_ble_eq_true rfl) dX4_toldOfGoing_5 (fun r1 hr1 => ?_)
  refine tr_if_ne C (tgt := 13) dX4_toldOfGoing_8 (by decide) (fun q8 => ?_) (fun q8 => ?_)
  · refine tr_iconst C (v := -1) dX4_toldOfGoing_11 (by decide) ?_
    exact tr_iret C hr hlk dX4_toldOfGoing_12
  · refine tr_iload_n C (i := 2) dX4_toldOfGoing_13 rfl rfl ?_
    refine tr_ite (fun q2 => ?_) (fun q2 => ?_)
    · refine tr_look C (tgt := 40) (off := 26) dX4_toldOfGoing_14 (by decide) (by rw [q2]; decide) (by decide) ?_
      refine tr_aload_n C (i := 0) dX4_toldOfGoing_40 rfl rfl ?_
      refine tr_getR C (k := 3) (ci := 4) rfl rfl rfl inT4 rfl (by decide) w267 dX4_toldOfGoing_41 ?_
      refine tr_iload_n C (i := 1) dX4_toldOfGoing_44 rfl rfl ?_
      refine tr_cVI C (av := [.int a1]) (st := []) (kX0_far l g cs ad 40 a1 fl40 σ) mwX0_far w368 (fl_0 fl40) rfl ⟨rfl, rfl⟩ ⟨(Nat.le_of_ble_eq_true rfl), (Nat.le_of_ble_eq_true rfl)⟩ rfl rfl (Nat.le_of_ble_eq_true rfl) dX4_toldOfGoing_45 (fun r7 σ7 hr7 => ?_)
      exact tr_iret C hr hlk dX4_toldOfGoing_48
    · refine tr_ite (fun q3 => ?_) (fun q3 => ?_)
      · refine tr_look C (tgt := 49) (off := 35) dX4_toldOfGoing_14 (by decide) (by rw [q3]; decide) (by decide) ?_
        refine tr_aload_n C (i := 0) dX4_toldOfGoing_49 rfl rfl ?_
        refine tr_getR C (k := 3) (ci := 4) rfl rfl rfl inT4 rfl (by decide) w267 dX4_toldOfGoing_50 ?_
        refine tr_iload_n C (i := 1) dX4_toldOfGoing_53 rfl rfl ?_
        refine tr_cVI C (av := [.int a1]) (st := []) (kX0_isFree l g cs ad 40 a1 fl40 σ) mwX0_isFree w393 (fl_0 fl40) rfl ⟨rfl, rfl⟩ ⟨(Nat.le_of_ble_eq_true rfl), (Nat.le_of_ble_eq_true rfl)⟩ rfl rfl (Nat.le_of_ble_eq_true rfl) dX4_toldOfGoing_54 (fun r5 σ5 hr5 => ?_)
        refine tr_if_eq C (tgt := 64) dX4_toldOfGoing_57 (by decide) (fun q6 => ?_) (fun q6 => ?_)
        · refine tr_iconst C (v := 0) dX4_toldOfGoing_64 (by decide) ?_
          exact tr_iret C hr hlk dX4_toldOfGoing_65
        · refine tr_iconst C (v := 1) dX4_toldOfGoing_60 (by decide) ?_
          refine tr_goto C (tgt := 65) dX4_toldOfGoing_61 (by decide) ?_
          exact tr_iret C hr hlk dX4_toldOfGoing_65
      · refine tr_look C (tgt := 66) (off := 52) dX4_toldOfGoing_14 (by decide) ((lv_osw q2 (by decide)).trans ((lv_osw q3 (by decide)).trans (rfl))) (by decide) ?_
        refine tr_aload_n C (i := 0) dX4_toldOfGoing_66 rfl rfl ?_
        refine tr_getR C (k := 3) (ci := 4) rfl rfl rfl inT4 rfl (by decide) w267 dX4_toldOfGoing_67 ?_
        refine tr_iload_n C (i := 1) dX4_toldOfGoing_70 rfl rfl ?_
        refine tr_cVI C (av := [.int a1]) (st := []) (kX0_way l g cs ad 40 a1 fl40 σ) mwX0_way w397 (fl_0 fl40) rfl ⟨rfl, rfl⟩ ⟨(Nat.le_of_ble_eq_true rfl), (Nat.le_of_ble_eq_true rfl)⟩ rfl rfl (Nat.le_of_ble_eq_true rfl) dX4_toldOfGoing_71 (fun r4 σ4 hr4 => ?_)
        exact tr_iret C hr hlk dX4_toldOfGoing_74
def fX4_told (a1 : Int32) (a2 : Int32) (σ : Mem) : Option (Int32 × Mem) :=
  if a2 = 0 then (
    some (σ.1 40 4, σ)
  ) else (
    if a2 = 1 then (
      some (σ.1 40 5, σ)
    ) else (
      if a2 = 2 then (
        bn1 (fX4_toldOfCell a1 a2 σ) fun r1 => (
          some (r1, σ)
        )
      ) else (
        if a2 = 10 then (
          bn1 (fX4_toldOfCell a1 a2 σ) fun r9 => (
            some (r9, σ)
          )
        ) else (
          if a2 < 3 then (
            some (-1000, σ)
          ) else (
            if 10 < a2 then (
              some (-1000, σ)
            ) else (
              bn1 (fX0_has 40 a1 σ) fun r2 => (
                if r2 = 0 then (
                  some (-1000, σ)
                ) else (
                  if 7 ≤ a2 then (
                    bnd (fX4_toldOfGoing a1 a2 σ) fun r3 σ3 => (
                      some (r3, σ3)
                    )
                  ) else (
                    bn1 (fX4_toldOfDust a1 a2 σ) fun r4 => (
                      some (r4, σ)
                    )
                  )
                )
              )
            )
          )
        )
      )
    )
  )
set_option maxHeartbeats 4000000 in
set_option maxRecDepth 100000 in
theorem kX4_told (l : Launch) (g : GG) (cs : CS) (ad : Nat → Nat) (a1 : Int32) (a2 : Int32) (σ : Mem) : CtI l g cs ad (shC g) mX4_told (.code mX4_told cX4_told 3 (some .int)) { frames := 4, cells := 0, slots := 0, locals := 93 } [.ref (ad 0), .int a1, .int a2] σ (fX4_told a1 a2 σ) := by
  refine ctI_intro (own := "KinInTheHeap") (by decide +kernel) rfl [some (.ref (ad 0)), some (.int a1), some (.int a2)] (Nat.le_of_ble_eq_true rfl) rfl ?_
  intro p e s m args below meth c A C hr hlk
  refine tr_iload_n C (i := 2) dX4_told_0 rfl rfl ?_
  refine tr_if_ne C (tgt := 12) dX4_told_1 (by decide) (fun q13 => ?_) (fun q13 => ?_)
  · refine tr_aload_n C (i := 0) dX4_told_4 rfl rfl ?_
    refine tr_getR C (k := 3) (ci := 4) rfl rfl rfl inT4 rfl (by decide) w267 dX4_told_5 ?_
    refine tr_getI C (k := 4) (ci := 0) (fl_0 fl40) rfl rfl inT0 rfl (by decide) w231 dX4_told_8 ?_
    exact tr_iret C hr hlk dX4_told_11
  · refine tr_iload_n C (i := 2) dX4_told_12 rfl rfl ?_
    refine tr_iconst C (v := 1) dX4_told_13 (by decide) ?_
    refine tr_icmp_ne C (tgt := 25) dX4_told_14 (by decide) (fun q12 => ?_) (fun q12 => ?_)
    · refine tr_aload_n C (i := 0) dX4_told_17 rfl rfl ?_
      refine tr_getR C (k := 3) (ci := 4) rfl rfl rfl inT4 rfl (by decide) w267 dX4_told_18 ?_
      refine tr_getI C (k := 5) (ci := 0) (fl_0 fl40) rfl rfl inT0 rfl (by decide) w233 dX4_told_21 ?_
      exact tr_iret C hr hlk dX4_told_24
    · refine tr_iload_n C (i := 2) dX4_told_25 rfl rfl ?_
      refine tr_iconst C (v := 2) dX4_told_26 (by decide) ?_
      refine tr_icmp_eq C (tgt := 36) dX4_told_27 (by decide) (fun q11 => ?_) (fun q11 => ?_)
      · refine tr_aload_n C (i := 0) dX4_told_36 rfl rfl ?_
        refine tr_iload_n C (i := 1) dX4_told_37 rfl rfl ?_
        refine tr_iload_n C (i := 2) dX4_told_38 rfl rfl ?_
        refine tr_cVIP C (av := [.int a1, .int a2]) (st := []) (kX4_toldOfCell l g cs ad a1 a2 σ) mwX4_toldOfCell w347 rfl rfl ⟨rfl, rfl⟩ ⟨(Nat.le_of_ble_eq_true rfl), (Nat.le_of_ble_eq_true rfl)⟩ rfl rfl (Nat.le_of_ble_eq_true rfl) dX4_told_39 (fun r1 hr1 => ?_)
        exact tr_iret C hr hlk dX4_told_42
      · refine tr_iload_n C (i := 2) dX4_told_30 rfl rfl ?_
        refine tr_bipush C (v := 10) dX4_told_31 (by decide) ?_
        refine tr_icmp_ne C (tgt := 43) dX4_told_33 (by decide) (fun q10 => ?_) (fun q10 => ?_)
        · refine tr_aload_n C (i := 0) dX4_told_36 rfl rfl ?_
          refine tr_iload_n C (i := 1) dX4_told_37 rfl rfl ?_
          refine tr_iload_n C (i := 2) dX4_told_38 rfl rfl ?_
          refine tr_cVIP C (av := [.int a1, .int a2]) (st := []) (kX4_toldOfCell l g cs ad a1 a2 σ) mwX4_toldOfCell w347 rfl rfl ⟨rfl, rfl⟩ ⟨(Nat.le_of_ble_eq_true rfl), (Nat.le_of_ble_eq_true rfl)⟩ rfl rfl (Nat.le_of_ble_eq_true rfl) dX4_told_39 (fun r9 hr9 => ?_)
          exact tr_iret C hr hlk dX4_told_42
        · refine tr_iload_n C (i := 2) dX4_told_43 rfl rfl ?_
          refine tr_iconst C (v := 3) dX4_told_44 (by decide) ?_
          refine tr_icmp_lt C (tgt := 65) dX4_told_45 (by decide) (fun q8 => ?_) (fun q8 => ?_)
          · refine tr_sipush C (v := -1000) dX4_told_65 (by decide) ?_
            exact tr_iret C hr hlk dX4_told_68
          · refine tr_iload_n C (i := 2) dX4_told_48 rfl rfl ?_
            refine tr_bipush C (v := 10) dX4_told_49 (by decide) ?_
            refine tr_icmp_gt C (tgt := 65) dX4_told_51 (by decide) (fun q7 => ?_) (fun q7 => ?_)
            · refine tr_sipush C (v := -1000) dX4_told_65 (by decide) ?_
              exact tr_iret C hr hlk dX4_told_68
            · refine tr_aload_n C (i := 0) dX4_told_54 rfl rfl ?_
              refine tr_getR C (k := 3) (ci := 4) rfl rfl rfl inT4 rfl (by decide) w267 dX4_told_55 ?_
              refine tr_iload_n C (i := 1) dX4_told_58 rfl rfl ?_
              refine tr_cVIP C (av := [.int a1]) (st := []) (kX0_has l g cs ad 40 a1 fl40 σ) mwX0_has w323 (fl_0 fl40) rfl ⟨rfl, rfl⟩ ⟨(Nat.le_of_ble_eq_true rfl), (Nat.le_of_ble_eq_true rfl)⟩ rfl rfl (Nat.le_of_ble_eq_true rfl) dX4_told_59 (fun r2 hr2 => ?_)
              refine tr_if_ne C (tgt := 69) dX4_told_62 (by decide) (fun q6 => ?_) (fun q6 => ?_)
              · refine tr_sipush C (v := -1000) dX4_told_65 (by decide) ?_
                exact tr_iret C hr hlk dX4_told_68
              · refine tr_iload_n C (i := 2) dX4_told_69 rfl rfl ?_
                refine tr_bipush C (v := 7) dX4_told_70 (by decide) ?_
                refine tr_icmp_ge C (tgt := 84) dX4_told_72 (by decide) (fun q5 => ?_) (fun q5 => ?_)
                · refine tr_aload_n C (i := 0) dX4_told_84 rfl rfl ?_
                  refine tr_iload_n C (i := 1) dX4_told_85 rfl rfl ?_
                  refine tr_iload_n C (i := 2) dX4_told_86 rfl rfl ?_
                  refine tr_cVI C (av := [.int a1, .int a2]) (st := []) (kX4_toldOfGoing l g cs ad a1 a2 σ) mwX4_toldOfGoing w359 rfl rfl ⟨rfl, rfl⟩ ⟨(Nat.le_of_ble_eq_true rfl), (Nat.le_of_ble_eq_true rfl)⟩ rfl rfl (Nat.le_of_ble_eq_true rfl) dX4_told_87 (fun r3 σ3 hr3 => ?_)
                  exact tr_iret C hr hlk dX4_told_90
                · refine tr_aload_n C (i := 0) dX4_told_75 rfl rfl ?_
                  refine tr_iload_n C (i := 1) dX4_told_76 rfl rfl ?_
                  refine tr_iload_n C (i := 2) dX4_told_77 rfl rfl ?_
                  refine tr_cVIP C (av := [.int a1, .int a2]) (st := []) (kX4_toldOfDust l g cs ad a1 a2 σ) mwX4_toldOfDust w355 rfl rfl ⟨rfl, rfl⟩ ⟨(Nat.le_of_ble_eq_true rfl), (Nat.le_of_ble_eq_true rfl)⟩ rfl rfl (Nat.le_of_ble_eq_true rfl) dX4_told_78 (fun r4 hr4 => ?_)
                  refine tr_goto C (tgt := 90) dX4_told_81 (by decide) ?_
                  exact tr_iret C hr hlk dX4_told_90
def fX4_feed (a1 : Int32) (σ : Mem) : Option (Int32 × Mem) :=
  bn1 (fX4_within a1 0 255 σ) fun r1 => (
    if r1 = 0 then (
      some (-2, σ)
    ) else (
      bnd (fX1_take a1 σ) fun r2 σ2 => (
        if r2 = 0 then (
          some (-4, σ2)
        ) else (
          some (σ2.1 3 0, σ2)
        )
      )
    )
  )
set_option maxHeartbeats 4000000 in
set_option maxRecDepth 100000 in
theorem kX4_feed (l : Launch) (g : GG) (cs : CS) (ad : Nat → Nat) (a1 : Int32) (σ : Mem) : CtI l g cs ad (shC g) mX4_feed (.code mX4_feed cX4_feed 2 (some .int)) { frames := 1, cells := 0, slots := 0, locals := 22 } [.ref (ad 0), .int a1] σ (fX4_feed a1 σ) := by
  refine ctI_intro (own := "KinInTheHeap") (by decide +kernel) rfl [some (.ref (ad 0)), some (.int a1)] (Nat.le_of_ble_eq_true rfl) rfl ?_
  intro p e s m args below meth c A C hr hlk
  refine tr_iload_n C (i := 1) dX4_feed_0 rfl rfl ?_
  refine tr_iconst C (v := 0) dX4_feed_1 (by decide) ?_
  refine tr_sipush C (v := 255) dX4_feed_2 (by decide) ?_
  refine tr_cSIP C (av := [.int a1, .int 0, .int 255]) (st := []) (kX4_within l g cs ad a1 0 255 σ) mwX4_within w300 ⟨rfl, rfl⟩ ⟨(Nat.le_of_ble_eq_true rfl), (Nat.le_of_ble_eq_true rfl)⟩ rfl rfl (Nat.le_of_ble_eq_true rfl) dX4_feed_5 (fun r1 hr1 => ?_)
  refine tr_if_ne C (tgt := 14) dX4_feed_8 (by decide) (fun q4 => ?_) (fun q4 => ?_)
  · refine tr_bipush C (v := -2) dX4_feed_11 (by decide) ?_
    exact tr_iret C hr hlk dX4_feed_13
  · refine tr_aload_n C (i := 0) dX4_feed_14 rfl rfl ?_
    refine tr_getR C (k := 2) (ci := 4) rfl rfl rfl inT4 rfl (by decide) w266 dX4_feed_15 ?_
    refine tr_iload_n C (i := 1) dX4_feed_18 rfl rfl ?_
    refine tr_cVI C (av := [.int a1]) (st := []) (kX1_take l g cs ad a1 σ) mwX1_take w411 rfl rfl ⟨rfl, rfl⟩ ⟨(Nat.le_of_ble_eq_true rfl), (Nat.le_of_ble_eq_true rfl)⟩ rfl rfl (Nat.le_of_ble_eq_true rfl) dX4_feed_19 (fun r2 σ2 hr2 => ?_)
    refine tr_if_eq C (tgt := 35) dX4_feed_22 (by decide) (fun q3 => ?_) (fun q3 => ?_)
    · refine tr_bipush C (v := -4) dX4_feed_35 (by decide) ?_
      exact tr_iret C hr hlk dX4_feed_37
    · refine tr_aload_n C (i := 0) dX4_feed_25 rfl rfl ?_
      refine tr_getR C (k := 2) (ci := 4) rfl rfl rfl inT4 rfl (by decide) w266 dX4_feed_26 ?_
      refine tr_getI C (k := 0) (ci := 1) rfl rfl rfl inT1 rfl (by decide) w132 dX4_feed_29 ?_
      refine tr_goto C (tgt := 37) dX4_feed_32 (by decide) ?_
      exact tr_iret C hr hlk dX4_feed_37
def fX4_text (σ : Mem) : Option (Int32 × Mem) :=
  if (σ.1 0 7) < 6 then (
    gd (inB (σ.1 0 7) 6) (
      bnd (fX1_read (8 + 4 * (σ.1 0 7).toNatClampNeg) σ) fun r2 σ2 => (
        bn1 (fX1_clear σ2) fun σ3 => (
          if r2 = (-1) then (
            stp (putI σ3 0 7 ((σ3.1 0 7) + 1)) fun σw4 => (
              some ((σw4.1 0 7) - 1, σw4)
            )
          ) else (
            some ((-100) - r2, σ3)
          )
        )
      )
    )
  ) else (
    some (-4, σ)
  )
set_option maxHeartbeats 4000000 in
set_option maxRecDepth 100000 in
theorem kX4_text (l : Launch) (g : GG) (cs : CS) (ad : Nat → Nat) (σ : Mem) : CtI l g cs ad (shC g) mX4_text (.code mX4_text cX4_text 2 (some .int)) { frames := 9, cells := 0, slots := 0, locals := 200 } [.ref (ad 0)] σ (fX4_text σ) := by
  refine ctI_intro (own := "KinInTheHeap") (by decide +kernel) rfl [some (.ref (ad 0)), none] (Nat.le_of_ble_eq_true rfl) rfl ?_
  intro p e s m args below meth c A C hr hlk
  refine tr_aload_n C (i := 0) dX4_text_0 rfl rfl ?_
  refine tr_getI C (k := 7) (ci := 4) rfl rfl rfl inT4 rfl (by decide) w271 dX4_text_1 ?_
  refine tr_bipush C (v := 6) dX4_text_4 (by decide) ?_
  refine tr_icmp_lt C (tgt := 12) dX4_text_6 (by decide) (fun q6 => ?_) (fun q6 => ?_)
  · refine tr_aload_n C (i := 0) dX4_text_12 rfl rfl ?_
    refine tr_getR C (k := 2) (ci := 4) rfl rfl rfl inT4 rfl (by decide) w266 dX4_text_13 ?_
    refine tr_aload_n C (i := 0) dX4_text_16 rfl rfl ?_
    refine tr_getR C (k := 0) (ci := 4) rfl rfl rfl inT4 rfl (by decide) w264 dX4_text_17 ?_
    refine tr_aload_n C (i := 0) dX4_text_20 rfl rfl ?_
    refine tr_getI C (k := 7) (ci := 4) rfl rfl rfl inT4 rfl (by decide) w271 dX4_text_21 ?_
    refine tr_aald C (n := 6) (t0 := 2) (t := 8 + 4 * (σ.1 0 7).toNatClampNeg) rfl rfl dX4_text_24 rfl (fun h1 => ?_)
    refine tr_cVI C (av := [.ref (ad (8 + 4 * (σ.1 0 7).toNatClampNeg))]) (st := []) (kX1_read l g cs ad (8 + 4 * (σ.1 0 7).toNatClampNeg) (isTx_of (lt_of_in h1)) σ) mwX1_read w419 rfl rfl ⟨rfl, rfl⟩ ⟨(Nat.le_of_ble_eq_true rfl), (Nat.le_of_ble_eq_true rfl)⟩ rfl rfl (Nat.le_of_ble_eq_true rfl) dX4_text_25 (fun r2 σ2 hr2 => ?_)
    refine tr_istore_n C (i := 1) (lv' := [some (.ref (ad 0)), some (.int r2)]) dX4_text_28 rfl (by decide) rfl ?_
    refine tr_aload_n C (i := 0) dX4_text_29 rfl rfl ?_
    refine tr_getR C (k := 2) (ci := 4) rfl rfl rfl inT4 rfl (by decide) w266 dX4_text_30 ?_
    refine tr_cVV C (av := []) (st := []) (kX1_clear l g cs ad σ2) mwX1_clear w623 rfl rfl ⟨rfl, rfl⟩ ⟨(Nat.le_of_ble_eq_true rfl), (Nat.le_of_ble_eq_true rfl)⟩ rfl rfl (Nat.le_of_ble_eq_true rfl) dX4_text_33 (fun σ3 hr3 => ?_)
    refine tr_iload_n C (i := 1) dX4_text_36 rfl rfl ?_
    refine tr_iconst C (v := -1) dX4_text_37 (by decide) ?_
    refine tr_icmp_eq C (tgt := 46) dX4_text_38 (by decide) (fun q5 => ?_) (fun q5 => ?_)
    · refine tr_aload_n C (i := 0) dX4_text_46 rfl rfl ?_
      refine tr_dup C dX4_text_47 rfl ?_
      refine tr_getI C (k := 7) (ci := 4) rfl rfl rfl inT4 rfl (by decide) w271 dX4_text_48 ?_
      refine tr_iconst C (v := 1) dX4_text_51 (by decide) ?_
      refine tr_iadd C dX4_text_52 ?_
      refine tr_putI C (k := 7) (ci := 4) (σ' := putI σ3 0 7 ((σ3.1 0 7) + 1)) rfl rfl rfl inT4 rfl (by decide) tyX4 tyX4_ok nmX4 rfl rfl w271 dX4_text_53 rfl ?_
      refine tr_stp (fun σw4 eσw4 => ?_)
      refine tr_aload_n C (i := 0) dX4_text_56 rfl rfl ?_
      refine tr_getI C (k := 7) (ci := 4) rfl rfl rfl inT4 rfl (by decide) w271 dX4_text_57 ?_
      refine tr_iconst C (v := 1) dX4_text_60 (by decide) ?_
      refine tr_isub C dX4_text_61 ?_
      exact tr_iret C hr hlk dX4_text_62
    · refine tr_bipush C (v := -100) dX4_text_41 (by decide) ?_
      refine tr_iload_n C (i := 1) dX4_text_43 rfl rfl ?_
      refine tr_isub C dX4_text_44 ?_
      exact tr_iret C hr hlk dX4_text_45
  · refine tr_bipush C (v := -4) dX4_text_9 (by decide) ?_
    exact tr_iret C hr hlk dX4_text_11
def fX4_force (a1 : Int32) (σ : Mem) : Option (Int32 × Mem) :=
  bn1 (fX4_within a1 0 ((σ.1 0 7) - 1) σ) fun r1 => (
    if r1 = 0 then (
      some (-2, σ)
    ) else (
      stp (putI σ 40 6 a1) fun σw2 => (
        some (σ.1 40 6, σw2)
      )
    )
  )
set_option maxHeartbeats 4000000 in
set_option maxRecDepth 100000 in
theorem kX4_force (l : Launch) (g : GG) (cs : CS) (ad : Nat → Nat) (a1 : Int32) (σ : Mem) : CtI l g cs ad (shC g) mX4_force (.code mX4_force cX4_force 3 (some .int)) { frames := 1, cells := 0, slots := 0, locals := 22 } [.ref (ad 0), .int a1] σ (fX4_force a1 σ) := by
  refine ctI_intro (own := "KinInTheHeap") (by decide +kernel) rfl [some (.ref (ad 0)), some (.int a1), none] (Nat.le_of_ble_eq_true rfl) rfl ?_
  intro p e s m args below meth c A C hr hlk
  refine tr_iload_n C (i := 1) dX4_force_0 rfl rfl ?_
  refine tr_iconst C (v := 0) dX4_force_1 (by decide) ?_
  refine tr_aload_n C (i := 0) dX4_force_2 rfl rfl ?_
  refine tr_getI C (k := 7) (ci := 4) rfl rfl rfl inT4 rfl (by decide) w271 dX4_force_3 ?_
  refine tr_iconst C (v := 1) dX4_force_6 (by decide) ?_
  refine tr_isub C dX4_force_7 ?_
  refine tr_cSIP C (av := [.int a1, .int 0, .int ((σ.1 0 7) - 1)]) (st := []) (kX4_within l g cs ad a1 0 ((σ.1 0 7) - 1) σ) mwX4_within w300 ⟨rfl, rfl⟩ ⟨(Nat.le_of_ble_eq_true rfl), (Nat.le_of_ble_eq_true rfl)⟩ rfl rfl (Nat.le_of_ble_eq_true rfl) dX4_force_8 (fun r1 hr1 => ?_)
  refine tr_if_ne C (tgt := 17) dX4_force_11 (by decide) (fun q3 => ?_) (fun q3 => ?_)
  · refine tr_bipush C (v := -2) dX4_force_14 (by decide) ?_
    exact tr_iret C hr hlk dX4_force_16
  · refine tr_aload_n C (i := 0) dX4_force_17 rfl rfl ?_
    refine tr_getR C (k := 3) (ci := 4) rfl rfl rfl inT4 rfl (by decide) w267 dX4_force_18 ?_
    refine tr_getI C (k := 6) (ci := 0) (fl_0 fl40) rfl rfl inT0 rfl (by decide) w235 dX4_force_21 ?_
    refine tr_istore_n C (i := 2) (lv' := [some (.ref (ad 0)), some (.int a1), some (.int (σ.1 40 6))]) dX4_force_24 rfl (by decide) rfl ?_
    refine tr_aload_n C (i := 0) dX4_force_25 rfl rfl ?_
    refine tr_getR C (k := 3) (ci := 4) rfl rfl rfl inT4 rfl (by decide) w267 dX4_force_26 ?_
    refine tr_iload_n C (i := 1) dX4_force_29 rfl rfl ?_
    refine tr_putI C (k := 6) (ci := 0) (σ' := putI σ 40 6 a1) (fl_0 fl40) rfl rfl inT0 rfl (by decide) tyX0 tyX0_ok nmX0 rfl rfl w235 dX4_force_30 rfl ?_
    refine tr_stp (fun σw2 eσw2 => ?_)
    refine tr_iload_n C (i := 2) dX4_force_33 rfl rfl ?_
    exact tr_iret C hr hlk dX4_force_34
def fX4_isStroke (a1 : Int32) (σ : Mem) : Option (Int32) :=
  bn1 (fX4_within a1 0 23 σ) fun r1 => (
    gd (isB r1) (some r1)
  )
set_option maxHeartbeats 4000000 in
set_option maxRecDepth 100000 in
theorem kX4_isStroke (l : Launch) (g : GG) (cs : CS) (ad : Nat → Nat) (a1 : Int32) (σ : Mem) : CtI l g cs ad (shC g) mX4_isStroke (.code mX4_isStroke cX4_isStroke 1 (some .boolean)) { frames := 1, cells := 0, slots := 0, locals := 22 } [.int a1] σ (pur (fX4_isStroke a1 σ) σ) := by
  refine ctIP_intro (own := "KinInTheHeap") (by decide +kernel) rfl [some (.int a1)] (Nat.le_of_ble_eq_true rfl) rfl ?_
  intro p e s m args below meth c A C hr hlk
  refine tr_iload_n C (i := 0) dX4_isStroke_0 rfl rfl ?_
  refine tr_iconst C (v := 0) dX4_isStroke_1 (by decide) ?_
  refine tr_bipush C (v := 23) dX4_isStroke_2 (by decide) ?_
  refine tr_cSIP C (av := [.int a1, .int 0, .int 23]) (st := []) (kX4_within l g cs ad a1 0 23 σ) mwX4_within w300 ⟨rfl, rfl⟩ ⟨(Nat.le_of_ble_eq_true rfl), (Nat.le_of_ble_eq_true rfl)⟩ rfl rfl (Nat.le_of_ble_eq_true rfl) dX4_isStroke_4 (fun r1 hr1 => ?_)
  exact tr_zretPG C hr hlk dX4_isStroke_7
def fX4_stroke (a1 : Int32) (σ : Mem) : Option (Int32 × Mem) :=
  bn1 (fX4_isStroke a1 σ) fun r1 => (
    if r1 = 0 then (
      some (-2, σ)
    ) else (
      bnd (fX0_brush 40 a1 σ) fun r2 σ2 => (
        some (r2, σ2)
      )
    )
  )
set_option maxHeartbeats 4000000 in
set_option maxRecDepth 100000 in
theorem kX4_stroke (l : Launch) (g : GG) (cs : CS) (ad : Nat → Nat) (a1 : Int32) (σ : Mem) : CtI l g cs ad (shC g) mX4_stroke (.code mX4_stroke cX4_stroke 2 (some .int)) { frames := 4, cells := 0, slots := 0, locals := 94 } [.ref (ad 0), .int a1] σ (fX4_stroke a1 σ) := by
  refine ctI_intro (own := "KinInTheHeap") (by decide +kernel) rfl [some (.ref (ad 0)), some (.int a1)] (Nat.le_of_ble_eq_true rfl) rfl ?_
  intro p e s m args below meth c A C hr hlk
  refine tr_iload_n C (i := 1) dX4_stroke_0 rfl rfl ?_
  refine tr_cSIP C (av := [.int a1]) (st := []) (kX4_isStroke l g cs ad a1 σ) mwX4_isStroke w636 ⟨rfl, rfl⟩ ⟨(Nat.le_of_ble_eq_true rfl), (Nat.le_of_ble_eq_true rfl)⟩ rfl rfl (Nat.le_of_ble_eq_true rfl) dX4_stroke_1 (fun r1 hr1 => ?_)
  refine tr_if_eq C (tgt := 18) dX4_stroke_4 (by decide) (fun q3 => ?_) (fun q3 => ?_)
  · refine tr_bipush C (v := -2) dX4_stroke_18 (by decide) ?_
    exact tr_iret C hr hlk dX4_stroke_20
  · refine tr_aload_n C (i := 0) dX4_stroke_7 rfl rfl ?_
    refine tr_getR C (k := 3) (ci := 4) rfl rfl rfl inT4 rfl (by decide) w267 dX4_stroke_8 ?_
    refine tr_iload_n C (i := 1) dX4_stroke_11 rfl rfl ?_
    refine tr_cVI C (av := [.int a1]) (st := []) (kX0_brush l g cs ad 40 a1 fl40 σ) mwX0_brush w639 (fl_0 fl40) rfl ⟨rfl, rfl⟩ ⟨(Nat.le_of_ble_eq_true rfl), (Nat.le_of_ble_eq_true rfl)⟩ rfl rfl (Nat.le_of_ble_eq_true rfl) dX4_stroke_12 (fun r2 σ2 hr2 => ?_)
    refine tr_goto C (tgt := 20) dX4_stroke_15 (by decide) ?_
    exact tr_iret C hr hlk dX4_stroke_20
def fX4_week (σ : Mem) : Option (Int32 × Mem) :=
  if (σ.1 40 4) < 999 then (
    bnd (fX0_drift 40 σ) fun r1 σ1 => (
      some (r1, σ1)
    )
  ) else (
    some (-3, σ)
  )
set_option maxHeartbeats 4000000 in
set_option maxRecDepth 100000 in
theorem kX4_week (l : Launch) (g : GG) (cs : CS) (ad : Nat → Nat) (σ : Mem) : CtI l g cs ad (shC g) mX4_week (.code mX4_week cX4_week 1 (some .int)) { frames := 4, cells := 0, slots := 0, locals := 92 } [.ref (ad 0)] σ (fX4_week σ) := by
  refine ctI_intro (own := "KinInTheHeap") (by decide +kernel) rfl [some (.ref (ad 0))] (Nat.le_of_ble_eq_true rfl) rfl ?_
  intro p e s m args below meth c A C hr hlk
  refine tr_aload_n C (i := 0) dX4_week_0 rfl rfl ?_
  refine tr_getR C (k := 3) (ci := 4) rfl rfl rfl inT4 rfl (by decide) w267 dX4_week_1 ?_
  refine tr_getI C (k := 4) (ci := 0) (fl_0 fl40) rfl rfl inT0 rfl (by decide) w231 dX4_week_4 ?_
  refine tr_sipush C (v := 999) dX4_week_7 (by decide) ?_
  refine tr_icmp_lt C (tgt := 18) dX4_week_10 (by decide) (fun q2 => ?_) (fun q2 => ?_)
  · refine tr_aload_n C (i := 0) dX4_week_18 rfl rfl ?_
    refine tr_getR C (k := 3) (ci := 4) rfl rfl rfl inT4 rfl (by decide) w267 dX4_week_19 ?_
    refine tr_cVI C (av := []) (st := []) (kX0_drift l g cs ad 40 fl40 σ) mwX0_drift w664 (fl_0 fl40) rfl ⟨rfl, rfl⟩ ⟨(Nat.le_of_ble_eq_true rfl), (Nat.le_of_ble_eq_true rfl)⟩ rfl rfl (Nat.le_of_ble_eq_true rfl) dX4_week_22 (fun r1 σ1 hr1 => ?_)
    exact tr_iret C hr hlk dX4_week_25
  · refine tr_bipush C (v := -3) dX4_week_13 (by decide) ?_
    refine tr_goto C (tgt := 25) dX4_week_15 (by decide) ?_
    exact tr_iret C hr hlk dX4_week_25
def fX4_isSheet (a1 : Int32) (σ : Mem) : Option (Int32) :=
  bn1 (fX4_within a1 0 3 σ) fun r1 => (
    gd (isB r1) (some r1)
  )
set_option maxHeartbeats 4000000 in
set_option maxRecDepth 100000 in
theorem kX4_isSheet (l : Launch) (g : GG) (cs : CS) (ad : Nat → Nat) (a1 : Int32) (σ : Mem) : CtI l g cs ad (shC g) mX4_isSheet (.code mX4_isSheet cX4_isSheet 1 (some .boolean)) { frames := 1, cells := 0, slots := 0, locals := 22 } [.int a1] σ (pur (fX4_isSheet a1 σ) σ) := by
  refine ctIP_intro (own := "KinInTheHeap") (by decide +kernel) rfl [some (.int a1)] (Nat.le_of_ble_eq_true rfl) rfl ?_
  intro p e s m args below meth c A C hr hlk
  refine tr_iload_n C (i := 0) dX4_isSheet_0 rfl rfl ?_
  refine tr_iconst C (v := 0) dX4_isSheet_1 (by decide) ?_
  refine tr_iconst C (v := 3) dX4_isSheet_2 (by decide) ?_
  refine tr_cSIP C (av := [.int a1, .int 0, .int 3]) (st := []) (kX4_within l g cs ad a1 0 3 σ) mwX4_within w300 ⟨rfl, rfl⟩ ⟨(Nat.le_of_ble_eq_true rfl), (Nat.le_of_ble_eq_true rfl)⟩ rfl rfl (Nat.le_of_ble_eq_true rfl) dX4_isSheet_3 (fun r1 hr1 => ?_)
  exact tr_zretPG C hr hlk dX4_isSheet_6
def fX4_isSweepWhat (a1 : Int32) (σ : Mem) : Option (Int32) :=
  bn1 (fX4_within a1 0 3 σ) fun r1 => (
    if r1 = 0 then (
      if a1 < 10 then (
        some 0
      ) else (
        bn1 (fX0_has 40 (a1 - 10) σ) fun r2 => (
          if r2 = 0 then (
            some 0
          ) else (
            some 1
          )
        )
      )
    ) else (
      some 1
    )
  )
set_option maxHeartbeats 4000000 in
set_option maxRecDepth 100000 in
theorem kX4_isSweepWhat (l : Launch) (g : GG) (cs : CS) (ad : Nat → Nat) (a1 : Int32) (σ : Mem) : CtI l g cs ad (shC g) mX4_isSweepWhat (.code mX4_isSweepWhat cX4_isSweepWhat 2 (some .boolean)) { frames := 2, cells := 0, slots := 0, locals := 43 } [.ref (ad 0), .int a1] σ (pur (fX4_isSweepWhat a1 σ) σ) := by
  refine ctIP_intro (own := "KinInTheHeap") (by decide +kernel) rfl [some (.ref (ad 0)), some (.int a1)] (Nat.le_of_ble_eq_true rfl) rfl ?_
  intro p e s m args below meth c A C hr hlk
  refine tr_iload_n C (i := 1) dX4_isSweepWhat_0 rfl rfl ?_
  refine tr_iconst C (v := 0) dX4_isSweepWhat_1 (by decide) ?_
  refine tr_iconst C (v := 3) dX4_isSweepWhat_2 (by decide) ?_
  refine tr_cSIP C (av := [.int a1, .int 0, .int 3]) (st := []) (kX4_within l g cs ad a1 0 3 σ) mwX4_within w300 ⟨rfl, rfl⟩ ⟨(Nat.le_of_ble_eq_true rfl), (Nat.le_of_ble_eq_true rfl)⟩ rfl rfl (Nat.le_of_ble_eq_true rfl) dX4_isSweepWhat_3 (fun r1 hr1 => ?_)
  refine tr_if_ne C (tgt := 29) dX4_isSweepWhat_6 (by decide) (fun q5 => ?_) (fun q5 => ?_)
  · refine tr_iload_n C (i := 1) dX4_isSweepWhat_9 rfl rfl ?_
    refine tr_bipush C (v := 10) dX4_isSweepWhat_10 (by decide) ?_
    refine tr_icmp_lt C (tgt := 33) dX4_isSweepWhat_12 (by decide) (fun q4 => ?_) (fun q4 => ?_)
    · refine tr_iconst C (v := 0) dX4_isSweepWhat_33 (by decide) ?_
      exact tr_zretP C hr hlk rfl dX4_isSweepWhat_34
    · refine tr_aload_n C (i := 0) dX4_isSweepWhat_15 rfl rfl ?_
      refine tr_getR C (k := 3) (ci := 4) rfl rfl rfl inT4 rfl (by decide) w267 dX4_isSweepWhat_16 ?_
      refine tr_iload_n C (i := 1) dX4_isSweepWhat_19 rfl rfl ?_
      refine tr_bipush C (v := 10) dX4_isSweepWhat_20 (by decide) ?_
      refine tr_isub C dX4_isSweepWhat_22 ?_
      refine tr_cVIP C (av := [.int (a1 - 10)]) (st := []) (kX0_has l g cs ad 40 (a1 - 10) fl40 σ) mwX0_has w323 (fl_0 fl40) rfl ⟨rfl, rfl⟩ ⟨(Nat.le_of_ble_eq_true rfl), (Nat.le_of_ble_eq_true rfl)⟩ rfl rfl (Nat.le_of_ble_eq_true rfl) dX4_isSweepWhat_23 (fun r2 hr2 => ?_)
      refine tr_if_eq C (tgt := 33) dX4_isSweepWhat_26 (by decide) (fun q3 => ?_) (fun q3 => ?_)
      · refine tr_iconst C (v := 0) dX4_isSweepWhat_33 (by decide) ?_
        exact tr_zretP C hr hlk rfl dX4_isSweepWhat_34
      · refine tr_iconst C (v := 1) dX4_isSweepWhat_29 (by decide) ?_
        refine tr_goto C (tgt := 34) dX4_isSweepWhat_30 (by decide) ?_
        exact tr_zretP C hr hlk rfl dX4_isSweepWhat_34
  · refine tr_iconst C (v := 1) dX4_isSweepWhat_29 (by decide) ?_
    refine tr_goto C (tgt := 34) dX4_isSweepWhat_30 (by decide) ?_
    exact tr_zretP C hr hlk rfl dX4_isSweepWhat_34
def fX4_strokesRefused_L12 (b1 : Nat) (σ : Mem) (ih12 : Int32 → Option (Int32)) : Int32 → Option (Int32) := fun v => match v with
  | y1_12 =>
    if (σ.1 b1 2) ≤ y1_12 then (
      some 0
    ) else (
      gd (inB y1_12 40) (
        bn1 (fX4_isStroke (rd σ (b1 + 1) y1_12) σ) fun r2 => (
          if r2 = 0 then (
            some (-2)
          ) else (
            ih12 (y1_12 + 1)
          )
        )
      )
    )
def fX4_strokesRefused (b1 : Nat) (σ : Mem) : Option (Int32) :=
  bn1 (fX2_isMissing b1 σ) fun r1 => (
    if r1 = 0 then (
      loopN (fX4_strokesRefused_L12 b1 σ) 1000 0
    ) else (
      some (-11)
    )
  )
set_option maxHeartbeats 4000000 in
set_option maxRecDepth 100000 in
theorem kX4_strokesRefused (l : Launch) (g : GG) (cs : CS) (ad : Nat → Nat) (b1 : Nat) (hb1 : isSt b1) (σ : Mem) : CtI l g cs ad (shC g) mX4_strokesRefused (.code mX4_strokesRefused cX4_strokesRefused 2 (some .int)) { frames := 2, cells := 0, slots := 0, locals := 42 } [.ref (ad b1)] σ (pur (fX4_strokesRefused b1 σ) σ) := by
  refine ctIP_intro (own := "KinInTheHeap") (by decide +kernel) rfl [some (.ref (ad b1)), none] (Nat.le_of_ble_eq_true rfl) rfl ?_
  intro p e s m args below meth c A C hr hlk
  refine tr_aload_n C (i := 0) dX4_strokesRefused_0 rfl rfl ?_
  refine tr_cVIP C (av := []) (st := []) (kX2_isMissing l g cs ad b1 hb1 σ) mwX2_isMissing w683 (st_0 hb1) rfl ⟨rfl, rfl⟩ ⟨(Nat.le_of_ble_eq_true rfl), (Nat.le_of_ble_eq_true rfl)⟩ rfl rfl (Nat.le_of_ble_eq_true rfl) dX4_strokesRefused_1 (fun r1 hr1 => ?_)
  refine tr_if_eq C (tgt := 10) dX4_strokesRefused_4 (by decide) (fun q6 => ?_) (fun q6 => ?_)
  · refine tr_iconst C (v := 0) dX4_strokesRefused_10 (by decide) ?_
    refine tr_istore_n C (i := 1) (lv' := [some (.ref (ad b1)), some (.int 0)]) dX4_strokesRefused_11 rfl (by decide) rfl ?_
    refine tr_loop (b := fX4_strokesRefused_L12 b1 σ) (sg := fun v => σ) (lw := fun v => [some (.ref (ad b1)), some (.int v)]) (sw := fun v => []) (fun ih12 IH12 v => ?_) 1000 0
    obtain ⟨y1_12, rfl⟩ : ∃ z, z = v := ⟨v, rfl⟩
    refine tr_st (σ' := σ) (lv' := [some (.ref (ad b1)), some (.int y1_12)]) (st' := []) rfl rfl rfl ?_
    refine tr_iload_n C (i := 1) dX4_strokesRefused_12 rfl rfl ?_
    refine tr_aload_n C (i := 0) dX4_strokesRefused_13 rfl rfl ?_
    refine tr_getI C (k := 2) (ci := 2) (st_0 hb1) rfl rfl inT2 rfl (by decide) w192 dX4_strokesRefused_14 ?_
    refine tr_icmp_ge C (tgt := 41) dX4_strokesRefused_17 (by decide) (fun q5 => ?_) (fun q5 => ?_)
    · refine tr_iconst C (v := 0) dX4_strokesRefused_41 (by decide) ?_
      exact tr_iretP C hr hlk dX4_strokesRefused_42
    · refine tr_aload_n C (i := 0) dX4_strokesRefused_20 rfl rfl ?_
      refine tr_getR C (k := 0) (ci := 2) (st_0 hb1) rfl rfl inT2 rfl (by decide) w188 dX4_strokesRefused_21 ?_
      refine tr_iload_n C (i := 1) dX4_strokesRefused_24 rfl rfl ?_
      refine tr_iald C (n := 40) (st_1 hb1) dX4_strokesRefused_25 (fun h4 => ?_)
      refine tr_cSIP C (av := [.int (rd σ (b1 + 1) y1_12)]) (st := []) (kX4_isStroke l g cs ad (rd σ (b1 + 1) y1_12) σ) mwX4_isStroke w636 ⟨rfl, rfl⟩ ⟨(Nat.le_of_ble_eq_true rfl), (Nat.le_of_ble_eq_true rfl)⟩ rfl rfl (Nat.le_of_ble_eq_true rfl) dX4_strokesRefused_26 (fun r2 hr2 => ?_)
      refine tr_if_ne C (tgt := 35) dX4_strokesRefused_29 (by decide) (fun q3 => ?_) (fun q3 => ?_)
      · refine tr_bipush C (v := -2) dX4_strokesRefused_32 (by decide) ?_
        exact tr_iretP C hr hlk dX4_strokesRefused_34
      · refine tr_iinc C (i := 1) (d := 1) (lv' := [some (.ref (ad b1)), some (.int (y1_12 + 1))]) dX4_strokesRefused_35 rfl (by decide) (by decide) rfl ?_
        refine tr_goto C (tgt := 12) dX4_strokesRefused_38 (by decide) ?_
        exact IH12 (y1_12 + 1)
  · refine tr_bipush C (v := -11) dX4_strokesRefused_7 (by decide) ?_
    exact tr_iretP C hr hlk dX4_strokesRefused_9
def fX4_brushAll_L4 (b1 : Nat) (b2 : Nat) (ih4 : Mem × Int32 × Int32 → Option (Int32 × Mem)) : Mem × Int32 × Int32 → Option (Int32 × Mem) := fun v => match v with
  | (σ4, y2_4, y3_4) =>
    if (σ4.1 b2 2) ≤ y3_4 then (
      some (y2_4, σ4)
    ) else (
      gd (inB y3_4 40) (
        bnd (fX0_brush b1 (rd σ4 (b2 + 1) y3_4) σ4) fun r1 σ1 => (
          ih4 (σ1, y2_4 + r1, y3_4 + 1)
        )
      )
    )
def fX4_brushAll (b1 : Nat) (b2 : Nat) (σ : Mem) : Option (Int32 × Mem) :=
  loopN (fX4_brushAll_L4 b1 b2) 1000 (σ, 0, 0)
set_option maxHeartbeats 4000000 in
set_option maxRecDepth 100000 in
theorem kX4_brushAll (l : Launch) (g : GG) (cs : CS) (ad : Nat → Nat) (b1 : Nat) (b2 : Nat) (hb1 : isFl b1) (hb2 : isSt b2) (σ : Mem) : CtI l g cs ad (shC g) mX4_brushAll (.code mX4_brushAll cX4_brushAll 4 (some .int)) { frames := 4, cells := 0, slots := 0, locals := 94 } [.ref (ad b1), .ref (ad b2)] σ (fX4_brushAll b1 b2 σ) := by
  refine ctI_intro (own := "KinInTheHeap") (by decide +kernel) rfl [some (.ref (ad b1)), some (.ref (ad b2)), none, none] (Nat.le_of_ble_eq_true rfl) rfl ?_
  intro p e s m args below meth c A C hr hlk
  refine tr_iconst C (v := 0) dX4_brushAll_0 (by decide) ?_
  refine tr_istore_n C (i := 2) (lv' := [some (.ref (ad b1)), some (.ref (ad b2)), some (.int 0), none]) dX4_brushAll_1 rfl (by decide) rfl ?_
  refine tr_iconst C (v := 0) dX4_brushAll_2 (by decide) ?_
  refine tr_istore_n C (i := 3) (lv' := [some (.ref (ad b1)), some (.ref (ad b2)), some (.int 0), some (.int 0)]) dX4_brushAll_3 rfl (by decide) rfl ?_
  refine tr_loop (b := fX4_brushAll_L4 b1 b2) (sg := fun v => v.1) (lw := fun v => [some (.ref (ad b1)), some (.ref (ad b2)), some (.int v.2.1), some (.int v.2.2)]) (sw := fun v => []) (fun ih4 IH4 v => ?_) 1000 (σ, 0, 0)
  obtain ⟨σ4, y2_4, y3_4⟩ := v
  refine tr_st (σ' := σ4) (lv' := [some (.ref (ad b1)), some (.ref (ad b2)), some (.int y2_4), some (.int y3_4)]) (st' := []) rfl rfl rfl ?_
  refine tr_iload_n C (i := 3) dX4_brushAll_4 rfl rfl ?_
  refine tr_aload_n C (i := 1) dX4_brushAll_5 rfl rfl ?_
  refine tr_getI C (k := 2) (ci := 2) (st_0 hb2) rfl rfl inT2 rfl (by decide) w192 dX4_brushAll_6 ?_
  refine tr_icmp_ge C (tgt := 31) dX4_brushAll_9 (by decide) (fun q3 => ?_) (fun q3 => ?_)
  · refine tr_iload_n C (i := 2) dX4_brushAll_31 rfl rfl ?_
    exact tr_iret C hr hlk dX4_brushAll_32
  · refine tr_iload_n C (i := 2) dX4_brushAll_12 rfl rfl ?_
    refine tr_aload_n C (i := 0) dX4_brushAll_13 rfl rfl ?_
    refine tr_aload_n C (i := 1) dX4_brushAll_14 rfl rfl ?_
    refine tr_getR C (k := 0) (ci := 2) (st_0 hb2) rfl rfl inT2 rfl (by decide) w188 dX4_brushAll_15 ?_
    refine tr_iload_n C (i := 3) dX4_brushAll_18 rfl rfl ?_
    refine tr_iald C (n := 40) (st_1 hb2) dX4_brushAll_19 (fun h2 => ?_)
    refine tr_cVI C (av := [.int (rd σ4 (b2 + 1) y3_4)]) (st := [.int y2_4]) (kX0_brush l g cs ad b1 (rd σ4 (b2 + 1) y3_4) hb1 σ4) mwX0_brush w639 (fl_0 hb1) rfl ⟨rfl, rfl⟩ ⟨(Nat.le_of_ble_eq_true rfl), (Nat.le_of_ble_eq_true rfl)⟩ rfl rfl (Nat.le_of_ble_eq_true rfl) dX4_brushAll_20 (fun r1 σ1 hr1 => ?_)
    refine tr_iadd C dX4_brushAll_23 ?_
    refine tr_istore_n C (i := 2) (lv' := [some (.ref (ad b1)), some (.ref (ad b2)), some (.int (y2_4 + r1)), some (.int y3_4)]) dX4_brushAll_24 rfl (by decide) rfl ?_
    refine tr_iinc C (i := 3) (d := 1) (lv' := [some (.ref (ad b1)), some (.ref (ad b2)), some (.int (y2_4 + r1)), some (.int (y3_4 + 1))]) dX4_brushAll_25 rfl (by decide) (by decide) rfl ?_
    refine tr_goto C (tgt := 4) dX4_brushAll_28 (by decide) ?_
    exact IH4 (σ1, y2_4 + r1, y3_4 + 1)
def fX4_measure (b1 : Nat) (a2 : Int32) (σ : Mem) : Option (Int32) :=
  if a2 = 1 then (
    bn1 (fX0_together b1 σ) fun r5 => (
      some r5
    )
  ) else (
    if a2 = 2 then (
      bn1 (fX0_heaps b1 σ) fun r4 => (
        some r4
      )
    ) else (
      bn1 (fX0_spread b1 σ) fun r3 => (
        some r3
      )
    )
  )
set_option maxHeartbeats 4000000 in
set_option maxRecDepth 100000 in
theorem kX4_measure (l : Launch) (g : GG) (cs : CS) (ad : Nat → Nat) (b1 : Nat) (a2 : Int32) (hb1 : isFl b1) (σ : Mem) : CtI l g cs ad (shC g) mX4_measure (.code mX4_measure cX4_measure 2 (some .int)) { frames := 2, cells := 0, slots := 0, locals := 44 } [.ref (ad b1), .int a2] σ (pur (fX4_measure b1 a2 σ) σ) := by
  refine ctIP_intro (own := "KinInTheHeap") (by decide +kernel) rfl [some (.ref (ad b1)), some (.int a2)] (Nat.le_of_ble_eq_true rfl) rfl ?_
  intro p e s m args below meth c A C hr hlk
  refine tr_iload_n C (i := 1) dX4_measure_0 rfl rfl ?_
  refine tr_ite (fun q1 => ?_) (fun q1 => ?_)
  · refine tr_look C (tgt := 28) (off := 27) dX4_measure_1 (by decide) (by rw [q1]; decide) (by decide) ?_
    refine tr_aload_n C (i := 0) dX4_measure_28 rfl rfl ?_
    refine tr_cVIP C (av := []) (st := []) (kX0_together l g cs ad b1 hb1 σ) mwX0_together w700 (fl_0 hb1) rfl ⟨rfl, rfl⟩ ⟨(Nat.le_of_ble_eq_true rfl), (Nat.le_of_ble_eq_true rfl)⟩ rfl rfl (Nat.le_of_ble_eq_true rfl) dX4_measure_29 (fun r5 hr5 => ?_)
    exact tr_iretP C hr hlk dX4_measure_32
  · refine tr_ite (fun q2 => ?_) (fun q2 => ?_)
    · refine tr_look C (tgt := 33) (off := 32) dX4_measure_1 (by decide) (by rw [q2]; decide) (by decide) ?_
      refine tr_aload_n C (i := 0) dX4_measure_33 rfl rfl ?_
      refine tr_cVIP C (av := []) (st := []) (kX0_heaps l g cs ad b1 hb1 σ) mwX0_heaps w704 (fl_0 hb1) rfl ⟨rfl, rfl⟩ ⟨(Nat.le_of_ble_eq_true rfl), (Nat.le_of_ble_eq_true rfl)⟩ rfl rfl (Nat.le_of_ble_eq_true rfl) dX4_measure_34 (fun r4 hr4 => ?_)
      exact tr_iretP C hr hlk dX4_measure_37
    · refine tr_look C (tgt := 38) (off := 37) dX4_measure_1 (by decide) ((lv_osw q1 (by decide)).trans ((lv_osw q2 (by decide)).trans (rfl))) (by decide) ?_
      refine tr_aload_n C (i := 0) dX4_measure_38 rfl rfl ?_
      refine tr_cVIP C (av := []) (st := []) (kX0_spread l g cs ad b1 hb1 σ) mwX0_spread w718 (fl_0 hb1) rfl ⟨rfl, rfl⟩ ⟨(Nat.le_of_ble_eq_true rfl), (Nat.le_of_ble_eq_true rfl)⟩ rfl rfl (Nat.le_of_ble_eq_true rfl) dX4_measure_39 (fun r3 hr3 => ?_)
      exact tr_iretP C hr hlk dX4_measure_42
def fX4_sweep (a1 : Int32) (a2 : Int32) (σ : Mem) : Option (Int32 × Mem) :=
  bn1 (fX4_isSheet a1 σ) fun r1 => (
    if r1 = 0 then (
      some (-2, σ)
    ) else (
      bn1 (fX4_isSweepWhat a2 σ) fun r2 => (
        if r2 = 0 then (
          some (-2, σ)
        ) else (
          gd (inB a1 4) (
            bn1 (fX4_strokesRefused (32 + 2 * a1.toNatClampNeg) σ) fun r4 => (
              if r4 = 0 then (
                bn1 (fX0_become 52 40 σ) fun σ5 => (
                  gd (inB a1 4) (
                    bnd (fX4_brushAll 52 (32 + 2 * a1.toNatClampNeg) σ5) fun r7 σ7 => (
                      if a2 = 0 then (
                        some (r7, σ7)
                      ) else (
                        if 10 ≤ a2 then (
                          gd (inB (a2 - 10) 8) (
                            some (rd σ7 55 (a2 - 10), σ7)
                          )
                        ) else (
                          bn1 (fX4_measure 52 a2 σ7) fun r9 => (
                            some (r9, σ7)
                          )
                        )
                      )
                    )
                  )
                )
              ) else (
                some (r4, σ)
              )
            )
          )
        )
      )
    )
  )
set_option maxHeartbeats 4000000 in
set_option maxRecDepth 100000 in
theorem kX4_sweep (l : Launch) (g : GG) (cs : CS) (ad : Nat → Nat) (a1 : Int32) (a2 : Int32) (σ : Mem) : CtI l g cs ad (shC g) mX4_sweep (.code mX4_sweep cX4_sweep 5 (some .int)) { frames := 5, cells := 0, slots := 0, locals := 117 } [.ref (ad 0), .int a1, .int a2] σ (fX4_sweep a1 a2 σ) := by
  refine ctI_intro (own := "KinInTheHeap") (by decide +kernel) rfl [some (.ref (ad 0)), some (.int a1), some (.int a2), none, none] (Nat.le_of_ble_eq_true rfl) rfl ?_
  intro p e s m args below meth c A C hr hlk
  refine tr_iload_n C (i := 1) dX4_sweep_0 rfl rfl ?_
  refine tr_cSIP C (av := [.int a1]) (st := []) (kX4_isSheet l g cs ad a1 σ) mwX4_isSheet w673 ⟨rfl, rfl⟩ ⟨(Nat.le_of_ble_eq_true rfl), (Nat.le_of_ble_eq_true rfl)⟩ rfl rfl (Nat.le_of_ble_eq_true rfl) dX4_sweep_1 (fun r1 hr1 => ?_)
  refine tr_if_eq C (tgt := 15) dX4_sweep_4 (by decide) (fun q14 => ?_) (fun q14 => ?_)
  · refine tr_bipush C (v := -2) dX4_sweep_15 (by decide) ?_
    exact tr_iret C hr hlk dX4_sweep_17
  · refine tr_aload_n C (i := 0) dX4_sweep_7 rfl rfl ?_
    refine tr_iload_n C (i := 2) dX4_sweep_8 rfl rfl ?_
    refine tr_cVIP C (av := [.int a2]) (st := []) (kX4_isSweepWhat l g cs ad a2 σ) mwX4_isSweepWhat w676 rfl rfl ⟨rfl, rfl⟩ ⟨(Nat.le_of_ble_eq_true rfl), (Nat.le_of_ble_eq_true rfl)⟩ rfl rfl (Nat.le_of_ble_eq_true rfl) dX4_sweep_9 (fun r2 hr2 => ?_)
    refine tr_if_ne C (tgt := 18) dX4_sweep_12 (by decide) (fun q13 => ?_) (fun q13 => ?_)
    · refine tr_bipush C (v := -2) dX4_sweep_15 (by decide) ?_
      exact tr_iret C hr hlk dX4_sweep_17
    · refine tr_aload_n C (i := 0) dX4_sweep_18 rfl rfl ?_
      refine tr_getR C (k := 1) (ci := 4) rfl rfl rfl inT4 rfl (by decide) w265 dX4_sweep_19 ?_
      refine tr_iload_n C (i := 1) dX4_sweep_22 rfl rfl ?_
      refine tr_aald C (n := 4) (t0 := 3) (t := 32 + 2 * a1.toNatClampNeg) rfl rfl dX4_sweep_23 rfl (fun h3 => ?_)
      refine tr_cSIP C (av := [.ref (ad (32 + 2 * a1.toNatClampNeg))]) (st := []) (kX4_strokesRefused l g cs ad (32 + 2 * a1.toNatClampNeg) (isSt_of (lt_of_in h3)) σ) mwX4_strokesRefused w680 ⟨rfl, rfl⟩ ⟨(Nat.le_of_ble_eq_true rfl), (Nat.le_of_ble_eq_true rfl)⟩ rfl rfl (Nat.le_of_ble_eq_true rfl) dX4_sweep_24 (fun r4 hr4 => ?_)
      refine tr_istore_n C (i := 3) (lv' := [some (.ref (ad 0)), some (.int a1), some (.int a2), some (.int r4), none]) dX4_sweep_27 rfl (by decide) rfl ?_
      refine tr_iload_n C (i := 3) dX4_sweep_28 rfl rfl ?_
      refine tr_if_eq C (tgt := 34) dX4_sweep_29 (by decide) (fun q12 => ?_) (fun q12 => ?_)
      · refine tr_aload_n C (i := 0) dX4_sweep_34 rfl rfl ?_
        refine tr_getR C (k := 5) (ci := 4) rfl rfl rfl inT4 rfl (by decide) w269 dX4_sweep_35 ?_
        refine tr_aload_n C (i := 0) dX4_sweep_38 rfl rfl ?_
        refine tr_getR C (k := 3) (ci := 4) rfl rfl rfl inT4 rfl (by decide) w267 dX4_sweep_39 ?_
        refine tr_cVV C (av := [.ref (ad 40)]) (st := []) (kX0_become l g cs ad 52 40 fl52 fl40 σ) mwX0_become w687 (fl_0 fl52) rfl ⟨rfl, rfl⟩ ⟨(Nat.le_of_ble_eq_true rfl), (Nat.le_of_ble_eq_true rfl)⟩ rfl rfl (Nat.le_of_ble_eq_true rfl) dX4_sweep_42 (fun σ5 hr5 => ?_)
        refine tr_aload_n C (i := 0) dX4_sweep_45 rfl rfl ?_
        refine tr_getR C (k := 5) (ci := 4) rfl rfl rfl inT4 rfl (by decide) w269 dX4_sweep_46 ?_
        refine tr_aload_n C (i := 0) dX4_sweep_49 rfl rfl ?_
        refine tr_getR C (k := 1) (ci := 4) rfl rfl rfl inT4 rfl (by decide) w265 dX4_sweep_50 ?_
        refine tr_iload_n C (i := 1) dX4_sweep_53 rfl rfl ?_
        refine tr_aald C (n := 4) (t0 := 3) (t := 32 + 2 * a1.toNatClampNeg) rfl rfl dX4_sweep_54 rfl (fun h6 => ?_)
        refine tr_cSI C (av := [.ref (ad 52), .ref (ad (32 + 2 * a1.toNatClampNeg))]) (st := []) (kX4_brushAll l g cs ad 52 (32 + 2 * a1.toNatClampNeg) fl52 (isSt_of (lt_of_in h6)) σ5) mwX4_brushAll w694 ⟨rfl, rfl⟩ ⟨(Nat.le_of_ble_eq_true rfl), (Nat.le_of_ble_eq_true rfl)⟩ rfl rfl (Nat.le_of_ble_eq_true rfl) dX4_sweep_55 (fun r7 σ7 hr7 => ?_)
        refine tr_istore C (i := 4) (lv' := [some (.ref (ad 0)), some (.int a1), some (.int a2), some (.int r4), some (.int r7)]) dX4_sweep_58 (by decide) rfl ?_
        refine tr_iload_n C (i := 2) dX4_sweep_60 rfl rfl ?_
        refine tr_if_ne C (tgt := 67) dX4_sweep_61 (by decide) (fun q11 => ?_) (fun q11 => ?_)
        · refine tr_iload C (i := 4) dX4_sweep_64 rfl ?_
          exact tr_iret C hr hlk dX4_sweep_66
        · refine tr_iload_n C (i := 2) dX4_sweep_67 rfl rfl ?_
          refine tr_bipush C (v := 10) dX4_sweep_68 (by decide) ?_
          refine tr_icmp_ge C (tgt := 84) dX4_sweep_70 (by decide) (fun q10 => ?_) (fun q10 => ?_)
          · refine tr_aload_n C (i := 0) dX4_sweep_84 rfl rfl ?_
            refine tr_getR C (k := 5) (ci := 4) rfl rfl rfl inT4 rfl (by decide) w269 dX4_sweep_85 ?_
            refine tr_getR C (k := 2) (ci := 0) (fl_0 fl52) rfl rfl inT0 rfl (by decide) w227 dX4_sweep_88 ?_
            refine tr_iload_n C (i := 2) dX4_sweep_91 rfl rfl ?_
            refine tr_bipush C (v := 10) dX4_sweep_92 (by decide) ?_
            refine tr_isub C dX4_sweep_94 ?_
            refine tr_iald C (n := 8) (fl_3 fl52) dX4_sweep_95 (fun h8 => ?_)
            exact tr_iret C hr hlk dX4_sweep_96
          · refine tr_aload_n C (i := 0) dX4_sweep_73 rfl rfl ?_
            refine tr_getR C (k := 5) (ci := 4) rfl rfl rfl inT4 rfl (by decide) w269 dX4_sweep_74 ?_
            refine tr_iload_n C (i := 2) dX4_sweep_77 rfl rfl ?_
            refine tr_cSIP C (av := [.ref (ad 52), .int a2]) (st := []) (kX4_measure l g cs ad 52 a2 fl52 σ7) mwX4_measure w697 ⟨rfl, rfl⟩ ⟨(Nat.le_of_ble_eq_true rfl), (Nat.le_of_ble_eq_true rfl)⟩ rfl rfl (Nat.le_of_ble_eq_true rfl) dX4_sweep_78 (fun r9 hr9 => ?_)
            refine tr_goto C (tgt := 96) dX4_sweep_81 (by decide) ?_
            exact tr_iret C hr hlk dX4_sweep_96
      · refine tr_iload_n C (i := 3) dX4_sweep_32 rfl rfl ?_
        exact tr_iret C hr hlk dX4_sweep_33
def fX4_sweeps (a1 : Int32) (σ : Mem) : Option (Int32 × Mem) :=
  bn1 (fX4_isSheet a1 σ) fun r1 => (
    if r1 = 0 then (
      some (-2, σ)
    ) else (
      gd (inB a1 4) (
        bn1 (fX4_strokesRefused (32 + 2 * a1.toNatClampNeg) σ) fun r3 => (
          if r3 = 0 then (
            gd (inB a1 4) (
              bnd (fX4_brushAll 40 (32 + 2 * a1.toNatClampNeg) σ) fun r5 σ5 => (
                some (r5, σ5)
              )
            )
          ) else (
            some (r3, σ)
          )
        )
      )
    )
  )
set_option maxHeartbeats 4000000 in
set_option maxRecDepth 100000 in
theorem kX4_sweeps (l : Launch) (g : GG) (cs : CS) (ad : Nat → Nat) (a1 : Int32) (σ : Mem) : CtI l g cs ad (shC g) mX4_sweeps (.code mX4_sweeps cX4_sweeps 3 (some .int)) { frames := 5, cells := 0, slots := 0, locals := 117 } [.ref (ad 0), .int a1] σ (fX4_sweeps a1 σ) := by
  refine ctI_intro (own := "KinInTheHeap") (by decide +kernel) rfl [some (.ref (ad 0)), some (.int a1), none] (Nat.le_of_ble_eq_true rfl) rfl ?_
  intro p e s m args below meth c A C hr hlk
  refine tr_iload_n C (i := 1) dX4_sweeps_0 rfl rfl ?_
  refine tr_cSIP C (av := [.int a1]) (st := []) (kX4_isSheet l g cs ad a1 σ) mwX4_isSheet w673 ⟨rfl, rfl⟩ ⟨(Nat.le_of_ble_eq_true rfl), (Nat.le_of_ble_eq_true rfl)⟩ rfl rfl (Nat.le_of_ble_eq_true rfl) dX4_sweeps_1 (fun r1 hr1 => ?_)
  refine tr_if_ne C (tgt := 10) dX4_sweeps_4 (by decide) (fun q7 => ?_) (fun q7 => ?_)
  · refine tr_bipush C (v := -2) dX4_sweeps_7 (by decide) ?_
    exact tr_iret C hr hlk dX4_sweeps_9
  · refine tr_aload_n C (i := 0) dX4_sweeps_10 rfl rfl ?_
    refine tr_getR C (k := 1) (ci := 4) rfl rfl rfl inT4 rfl (by decide) w265 dX4_sweeps_11 ?_
    refine tr_iload_n C (i := 1) dX4_sweeps_14 rfl rfl ?_
    refine tr_aald C (n := 4) (t0 := 3) (t := 32 + 2 * a1.toNatClampNeg) rfl rfl dX4_sweeps_15 rfl (fun h2 => ?_)
    refine tr_cSIP C (av := [.ref (ad (32 + 2 * a1.toNatClampNeg))]) (st := []) (kX4_strokesRefused l g cs ad (32 + 2 * a1.toNatClampNeg) (isSt_of (lt_of_in h2)) σ) mwX4_strokesRefused w680 ⟨rfl, rfl⟩ ⟨(Nat.le_of_ble_eq_true rfl), (Nat.le_of_ble_eq_true rfl)⟩ rfl rfl (Nat.le_of_ble_eq_true rfl) dX4_sweeps_16 (fun r3 hr3 => ?_)
    refine tr_istore_n C (i := 2) (lv' := [some (.ref (ad 0)), some (.int a1), some (.int r3)]) dX4_sweeps_19 rfl (by decide) rfl ?_
    refine tr_iload_n C (i := 2) dX4_sweeps_20 rfl rfl ?_
    refine tr_if_eq C (tgt := 28) dX4_sweeps_21 (by decide) (fun q6 => ?_) (fun q6 => ?_)
    · refine tr_aload_n C (i := 0) dX4_sweeps_28 rfl rfl ?_
      refine tr_getR C (k := 3) (ci := 4) rfl rfl rfl inT4 rfl (by decide) w267 dX4_sweeps_29 ?_
      refine tr_aload_n C (i := 0) dX4_sweeps_32 rfl rfl ?_
      refine tr_getR C (k := 1) (ci := 4) rfl rfl rfl inT4 rfl (by decide) w265 dX4_sweeps_33 ?_
      refine tr_iload_n C (i := 1) dX4_sweeps_36 rfl rfl ?_
      refine tr_aald C (n := 4) (t0 := 3) (t := 32 + 2 * a1.toNatClampNeg) rfl rfl dX4_sweeps_37 rfl (fun h4 => ?_)
      refine tr_cSI C (av := [.ref (ad 40), .ref (ad (32 + 2 * a1.toNatClampNeg))]) (st := []) (kX4_brushAll l g cs ad 40 (32 + 2 * a1.toNatClampNeg) fl40 (isSt_of (lt_of_in h4)) σ) mwX4_brushAll w694 ⟨rfl, rfl⟩ ⟨(Nat.le_of_ble_eq_true rfl), (Nat.le_of_ble_eq_true rfl)⟩ rfl rfl (Nat.le_of_ble_eq_true rfl) dX4_sweeps_38 (fun r5 σ5 hr5 => ?_)
      exact tr_iret C hr hlk dX4_sweeps_41
    · refine tr_iload_n C (i := 2) dX4_sweeps_24 rfl rfl ?_
      refine tr_goto C (tgt := 41) dX4_sweeps_25 (by decide) ?_
      exact tr_iret C hr hlk dX4_sweeps_41
def fX4_floor (a1 : Int32) (σ : Mem) : Option (Int32) :=
  if a1 = 0 then (
    bn1 (fX0_heaps 40 σ) fun r10 => (
      some r10
    )
  ) else (
    if a1 = 1 then (
      bn1 (fX0_greatest 40 σ) fun r9 => (
        some r9
      )
    ) else (
      if a1 = 2 then (
        bn1 (fX0_together 40 σ) fun r8 => (
          some r8
        )
      ) else (
        if a1 = 3 then (
          bn1 (fX0_spread 40 σ) fun r7 => (
            some r7
          )
        ) else (
          if a1 = 4 then (
            bn1 (fX0_thoseIn 40 (-1) σ) fun r6 => (
              some r6
            )
          ) else (
            some (-2)
          )
        )
      )
    )
  )
set_option maxHeartbeats 4000000 in
set_option maxRecDepth 100000 in
theorem kX4_floor (l : Launch) (g : GG) (cs : CS) (ad : Nat → Nat) (a1 : Int32) (σ : Mem) : CtI l g cs ad (shC g) mX4_floor (.code mX4_floor cX4_floor 2 (some .int)) { frames := 2, cells := 0, slots := 0, locals := 45 } [.ref (ad 0), .int a1] σ (pur (fX4_floor a1 σ) σ) := by
  refine ctIP_intro (own := "KinInTheHeap") (by decide +kernel) rfl [some (.ref (ad 0)), some (.int a1)] (Nat.le_of_ble_eq_true rfl) rfl ?_
  intro p e s m args below meth c A C hr hlk
  refine tr_iload_n C (i := 1) dX4_floor_0 rfl rfl ?_
  refine tr_ite (fun q1 => ?_) (fun q1 => ?_)
  · refine tr_tin C (k := 0) (tgt := 36) dX4_floor_1 q1 (by decide) (by decide) rfl (by decide) ?_
    refine tr_aload_n C (i := 0) dX4_floor_36 rfl rfl ?_
    refine tr_getR C (k := 3) (ci := 4) rfl rfl rfl inT4 rfl (by decide) w267 dX4_floor_37 ?_
    refine tr_cVIP C (av := []) (st := []) (kX0_heaps l g cs ad 40 fl40 σ) mwX0_heaps w704 (fl_0 fl40) rfl ⟨rfl, rfl⟩ ⟨(Nat.le_of_ble_eq_true rfl), (Nat.le_of_ble_eq_true rfl)⟩ rfl rfl (Nat.le_of_ble_eq_true rfl) dX4_floor_40 (fun r10 hr10 => ?_)
    exact tr_iretP C hr hlk dX4_floor_43
  · refine tr_ite (fun q2 => ?_) (fun q2 => ?_)
    · refine tr_tin C (k := 1) (tgt := 44) dX4_floor_1 q2 (by decide) (by decide) rfl (by decide) ?_
      refine tr_aload_n C (i := 0) dX4_floor_44 rfl rfl ?_
      refine tr_getR C (k := 3) (ci := 4) rfl rfl rfl inT4 rfl (by decide) w267 dX4_floor_45 ?_
      refine tr_cVIP C (av := []) (st := []) (kX0_greatest l g cs ad 40 fl40 σ) mwX0_greatest w733 (fl_0 fl40) rfl ⟨rfl, rfl⟩ ⟨(Nat.le_of_ble_eq_true rfl), (Nat.le_of_ble_eq_true rfl)⟩ rfl rfl (Nat.le_of_ble_eq_true rfl) dX4_floor_48 (fun r9 hr9 => ?_)
      exact tr_iretP C hr hlk dX4_floor_51
    · refine tr_ite (fun q3 => ?_) (fun q3 => ?_)
      · refine tr_tin C (k := 2) (tgt := 52) dX4_floor_1 q3 (by decide) (by decide) rfl (by decide) ?_
        refine tr_aload_n C (i := 0) dX4_floor_52 rfl rfl ?_
        refine tr_getR C (k := 3) (ci := 4) rfl rfl rfl inT4 rfl (by decide) w267 dX4_floor_53 ?_
        refine tr_cVIP C (av := []) (st := []) (kX0_together l g cs ad 40 fl40 σ) mwX0_together w700 (fl_0 fl40) rfl ⟨rfl, rfl⟩ ⟨(Nat.le_of_ble_eq_true rfl), (Nat.le_of_ble_eq_true rfl)⟩ rfl rfl (Nat.le_of_ble_eq_true rfl) dX4_floor_56 (fun r8 hr8 => ?_)
        exact tr_iretP C hr hlk dX4_floor_59
      · refine tr_ite (fun q4 => ?_) (fun q4 => ?_)
        · refine tr_tin C (k := 3) (tgt := 60) dX4_floor_1 q4 (by decide) (by decide) rfl (by decide) ?_
          refine tr_aload_n C (i := 0) dX4_floor_60 rfl rfl ?_
          refine tr_getR C (k := 3) (ci := 4) rfl rfl rfl inT4 rfl (by decide) w267 dX4_floor_61 ?_
          refine tr_cVIP C (av := []) (st := []) (kX0_spread l g cs ad 40 fl40 σ) mwX0_spread w718 (fl_0 fl40) rfl ⟨rfl, rfl⟩ ⟨(Nat.le_of_ble_eq_true rfl), (Nat.le_of_ble_eq_true rfl)⟩ rfl rfl (Nat.le_of_ble_eq_true rfl) dX4_floor_64 (fun r7 hr7 => ?_)
          exact tr_iretP C hr hlk dX4_floor_67
        · refine tr_ite (fun q5 => ?_) (fun q5 => ?_)
          · refine tr_tin C (k := 4) (tgt := 68) dX4_floor_1 q5 (by decide) (by decide) rfl (by decide) ?_
            refine tr_aload_n C (i := 0) dX4_floor_68 rfl rfl ?_
            refine tr_getR C (k := 3) (ci := 4) rfl rfl rfl inT4 rfl (by decide) w267 dX4_floor_69 ?_
            refine tr_iconst C (v := -1) dX4_floor_72 (by decide) ?_
            refine tr_cVIP C (av := [.int (-1)]) (st := []) (kX0_thoseIn l g cs ad 40 (-1) fl40 σ) mwX0_thoseIn w351 (fl_0 fl40) rfl ⟨rfl, rfl⟩ ⟨(Nat.le_of_ble_eq_true rfl), (Nat.le_of_ble_eq_true rfl)⟩ rfl rfl (Nat.le_of_ble_eq_true rfl) dX4_floor_73 (fun r6 hr6 => ?_)
            exact tr_iretP C hr hlk dX4_floor_76
          · refine tr_tout C (tgt := 77) dX4_floor_1 (by have eq1 := neI (0) q1 (by decide); have eq2 := neI (1) q2 (by decide); have eq3 := neI (2) q3 (by decide); have eq4 := neI (3) q4 (by decide); have eq5 := neI (4) q5 (by decide); omega) (by decide) ?_
            refine tr_bipush C (v := -2) dX4_floor_77 (by decide) ?_
            exact tr_iretP C hr hlk dX4_floor_79
def fX4_think (a1 : Int32) (σ : Mem) : Option (Mem) :=
  bn1 (fX0_become 52 40 σ) fun σ1 => (
    bnd (fX0_brush 52 a1 σ1) fun r2 σ2 => (
      some σ2
    )
  )
set_option maxHeartbeats 4000000 in
set_option maxRecDepth 100000 in
theorem kX4_think (l : Launch) (g : GG) (cs : CS) (ad : Nat → Nat) (a1 : Int32) (σ : Mem) : CtV l g cs ad (shC g) mX4_think (.code mX4_think cX4_think 2 none) { frames := 4, cells := 0, slots := 0, locals := 94 } [.ref (ad 0), .int a1] σ (fX4_think a1 σ) := by
  refine ctV_intro (own := "KinInTheHeap") (by decide +kernel) rfl [some (.ref (ad 0)), some (.int a1)] (Nat.le_of_ble_eq_true rfl) rfl ?_
  intro p e s m args below meth c A C hr hlk
  refine tr_aload_n C (i := 0) dX4_think_0 rfl rfl ?_
  refine tr_getR C (k := 5) (ci := 4) rfl rfl rfl inT4 rfl (by decide) w269 dX4_think_1 ?_
  refine tr_aload_n C (i := 0) dX4_think_4 rfl rfl ?_
  refine tr_getR C (k := 3) (ci := 4) rfl rfl rfl inT4 rfl (by decide) w267 dX4_think_5 ?_
  refine tr_cVV C (av := [.ref (ad 40)]) (st := []) (kX0_become l g cs ad 52 40 fl52 fl40 σ) mwX0_become w687 (fl_0 fl52) rfl ⟨rfl, rfl⟩ ⟨(Nat.le_of_ble_eq_true rfl), (Nat.le_of_ble_eq_true rfl)⟩ rfl rfl (Nat.le_of_ble_eq_true rfl) dX4_think_8 (fun σ1 hr1 => ?_)
  refine tr_aload_n C (i := 0) dX4_think_11 rfl rfl ?_
  refine tr_getR C (k := 5) (ci := 4) rfl rfl rfl inT4 rfl (by decide) w269 dX4_think_12 ?_
  refine tr_iload_n C (i := 1) dX4_think_15 rfl rfl ?_
  refine tr_cVI C (av := [.int a1]) (st := []) (kX0_brush l g cs ad 52 a1 fl52 σ1) mwX0_brush w639 (fl_0 fl52) rfl ⟨rfl, rfl⟩ ⟨(Nat.le_of_ble_eq_true rfl), (Nat.le_of_ble_eq_true rfl)⟩ rfl rfl (Nat.le_of_ble_eq_true rfl) dX4_think_16 (fun r2 σ2 hr2 => ?_)
  refine tr_pop C dX4_think_19 rfl ?_
  exact tr_vret C hr hlk dX4_think_20
def fX4_reached_L18 (a1 : Int32) (ih18 : Mem × Int64 × Int32 → Option (Int64 × Mem)) : Mem × Int64 × Int32 → Option (Int64 × Mem) := fun v => match v with
  | (σ18, y2_18, y4_18) =>
    if 24 ≤ y4_18 then (
      some (y2_18, σ18)
    ) else (
      bn1 (fX4_think y4_18 σ18) fun σ2 => (
        bn1 (fX0_isIn 52 a1 σ2) fun r3 => (
          if r3 = 0 then (
            ih18 (σ2, y2_18, y4_18 + 1)
          ) else (
            gd (inB a1 8) (
              ih18 (σ2, y2_18 ||| (1 <<< ((rd σ2 55 a1).toInt64 &&& 63)), y4_18 + 1)
            )
          )
        )
      )
    )
def fX4_reached (a1 : Int32) (σ : Mem) : Option (Int64 × Mem) :=
  bn1 (fX0_isIn 40 a1 σ) fun r1 => (
    if r1 = 0 then (
      some (0, σ)
    ) else (
      loopN (fX4_reached_L18 a1) 1000 (σ, 0, 0)
    )
  )
set_option maxHeartbeats 4000000 in
set_option maxRecDepth 100000 in
theorem kX4_reached (l : Launch) (g : GG) (cs : CS) (ad : Nat → Nat) (a1 : Int32) (σ : Mem) : CtL l g cs ad (shC g) mX4_reached (.code mX4_reached cX4_reached 5 (some .long)) { frames := 5, cells := 0, slots := 0, locals := 115 } [.ref (ad 0), .int a1] σ (fX4_reached a1 σ) := by
  refine ctL_intro (own := "KinInTheHeap") (by decide +kernel) rfl [some (.ref (ad 0)), some (.int a1), none, none, none] (Nat.le_of_ble_eq_true rfl) rfl ?_
  intro p e s m args below meth c A C hr hlk
  refine tr_lconst C (v := 0) dX4_reached_0 (by decide) ?_
  refine tr_lstore_n C (i := 2) (lv' := [some (.ref (ad 0)), some (.int a1), some (.long 0), none, none]) dX4_reached_1 rfl (by decide) rfl ?_
  refine tr_aload_n C (i := 0) dX4_reached_2 rfl rfl ?_
  refine tr_getR C (k := 3) (ci := 4) rfl rfl rfl inT4 rfl (by decide) w267 dX4_reached_3 ?_
  refine tr_iload_n C (i := 1) dX4_reached_6 rfl rfl ?_
  refine tr_cVIP C (av := [.int a1]) (st := []) (kX0_isIn l g cs ad 40 a1 fl40 σ) mwX0_isIn w363 (fl_0 fl40) rfl ⟨rfl, rfl⟩ ⟨(Nat.le_of_ble_eq_true rfl), (Nat.le_of_ble_eq_true rfl)⟩ rfl rfl (Nat.le_of_ble_eq_true rfl) dX4_reached_7 (fun r1 hr1 => ?_)
  refine tr_if_ne C (tgt := 15) dX4_reached_10 (by decide) (fun q7 => ?_) (fun q7 => ?_)
  · refine tr_lload_n C (i := 2) dX4_reached_13 rfl rfl ?_
    exact tr_lret C hr hlk dX4_reached_14
  · refine tr_iconst C (v := 0) dX4_reached_15 (by decide) ?_
    refine tr_istore C (i := 4) (lv' := [some (.ref (ad 0)), some (.int a1), some (.long 0), none, some (.int 0)]) dX4_reached_16 (by decide) rfl ?_
    refine tr_loop (b := fX4_reached_L18 a1) (sg := fun v => v.1) (lw := fun v => [some (.ref (ad 0)), some (.int a1), some (.long v.2.1), none, some (.int v.2.2)]) (sw := fun v => []) (fun ih18 IH18 v => ?_) 1000 (σ, 0, 0)
    obtain ⟨σ18, y2_18, y4_18⟩ := v
    refine tr_st (σ' := σ18) (lv' := [some (.ref (ad 0)), some (.int a1), some (.long y2_18), none, some (.int y4_18)]) (st' := []) rfl rfl rfl ?_
    refine tr_iload C (i := 4) dX4_reached_18 rfl ?_
    refine tr_bipush C (v := 24) dX4_reached_20 (by decide) ?_
    refine tr_icmp_ge C (tgt := 62) dX4_reached_22 (by decide) (fun q6 => ?_) (fun q6 => ?_)
    · refine tr_lload_n C (i := 2) dX4_reached_62 rfl rfl ?_
      exact tr_lret C hr hlk dX4_reached_63
    · refine tr_aload_n C (i := 0) dX4_reached_25 rfl rfl ?_
      refine tr_iload C (i := 4) dX4_reached_26 rfl ?_
      refine tr_cVV C (av := [.int y4_18]) (st := []) (kX4_think l g cs ad y4_18 σ18) mwX4_think w747 rfl rfl ⟨rfl, rfl⟩ ⟨(Nat.le_of_ble_eq_true rfl), (Nat.le_of_ble_eq_true rfl)⟩ rfl rfl (Nat.le_of_ble_eq_true rfl) dX4_reached_28 (fun σ2 hr2 => ?_)
      refine tr_aload_n C (i := 0) dX4_reached_31 rfl rfl ?_
      refine tr_getR C (k := 5) (ci := 4) rfl rfl rfl inT4 rfl (by decide) w269 dX4_reached_32 ?_
      refine tr_iload_n C (i := 1) dX4_reached_35 rfl rfl ?_
      refine tr_cVIP C (av := [.int a1]) (st := []) (kX0_isIn l g cs ad 52 a1 fl52 σ2) mwX0_isIn w363 (fl_0 fl52) rfl ⟨rfl, rfl⟩ ⟨(Nat.le_of_ble_eq_true rfl), (Nat.le_of_ble_eq_true rfl)⟩ rfl rfl (Nat.le_of_ble_eq_true rfl) dX4_reached_36 (fun r3 hr3 => ?_)
      refine tr_if_eq C (tgt := 56) dX4_reached_39 (by decide) (fun q5 => ?_) (fun q5 => ?_)
      · refine tr_iinc C (i := 4) (d := 1) (lv' := [some (.ref (ad 0)), some (.int a1), some (.long y2_18), none, some (.int (y4_18 + 1))]) dX4_reached_56 rfl (by decide) (by decide) rfl ?_
        refine tr_goto C (tgt := 18) dX4_reached_59 (by decide) ?_
        exact IH18 (σ2, y2_18, y4_18 + 1)
      · refine tr_lload_n C (i := 2) dX4_reached_42 rfl rfl ?_
        refine tr_lconst C (v := 1) dX4_reached_43 (by decide) ?_
        refine tr_aload_n C (i := 0) dX4_reached_44 rfl rfl ?_
        refine tr_getR C (k := 5) (ci := 4) rfl rfl rfl inT4 rfl (by decide) w269 dX4_reached_45 ?_
        refine tr_getR C (k := 2) (ci := 0) (fl_0 fl52) rfl rfl inT0 rfl (by decide) w227 dX4_reached_48 ?_
        refine tr_iload_n C (i := 1) dX4_reached_51 rfl rfl ?_
        refine tr_iald C (n := 8) (fl_3 fl52) dX4_reached_52 (fun h4 => ?_)
        refine tr_lshl C dX4_reached_53 ?_
        refine tr_lor C dX4_reached_54 ?_
        refine tr_lstore_n C (i := 2) (lv' := [some (.ref (ad 0)), some (.int a1), some (.long (y2_18 ||| (1 <<< ((rd σ2 55 a1).toInt64 &&& 63)))), none, some (.int y4_18)]) dX4_reached_55 rfl (by decide) rfl ?_
        refine tr_iinc C (i := 4) (d := 1) (lv' := [some (.ref (ad 0)), some (.int a1), some (.long (y2_18 ||| (1 <<< ((rd σ2 55 a1).toInt64 &&& 63)))), none, some (.int (y4_18 + 1))]) dX4_reached_56 rfl (by decide) (by decide) rfl ?_
        refine tr_goto C (tgt := 18) dX4_reached_59 (by decide) ?_
        exact IH18 (σ2, y2_18 ||| (1 <<< ((rd σ2 55 a1).toInt64 &&& 63)), y4_18 + 1)
def fX4_where (a1 : Int32) (σ : Mem) : Option (Int64 × Mem) :=
  if a1 = 0 then (
    bn1 (fX0_heapBits 40 σ) fun r6 => (
      some (r6, σ)
    )
  ) else (
    if a1 = 1 then (
      some (σ.2 40 3, σ)
    ) else (
      if a1 < 10 then (
        some (-4611686018427387904, σ)
      ) else (
        bn1 (fX0_has 40 (a1 - 10) σ) fun r1 => (
          if r1 = 0 then (
            some (-4611686018427387904, σ)
          ) else (
            bnd (fX4_reached (a1 - 10) σ) fun r2 σ2 => (
              some (r2, σ2)
            )
          )
        )
      )
    )
  )
set_option maxHeartbeats 4000000 in
set_option maxRecDepth 100000 in
theorem kX4_where (l : Launch) (g : GG) (cs : CS) (ad : Nat → Nat) (a1 : Int32) (σ : Mem) : CtL l g cs ad (shC g) mX4_where (.code mX4_where cX4_where 2 (some .long)) { frames := 6, cells := 0, slots := 0, locals := 139 } [.ref (ad 0), .int a1] σ (fX4_where a1 σ) := by
  refine ctL_intro (own := "KinInTheHeap") (by decide +kernel) rfl [some (.ref (ad 0)), some (.int a1)] (Nat.le_of_ble_eq_true rfl) rfl ?_
  intro p e s m args below meth c A C hr hlk
  refine tr_iload_n C (i := 1) dX4_where_0 rfl rfl ?_
  refine tr_if_ne C (tgt := 12) dX4_where_1 (by decide) (fun q7 => ?_) (fun q7 => ?_)
  · refine tr_aload_n C (i := 0) dX4_where_4 rfl rfl ?_
    refine tr_getR C (k := 3) (ci := 4) rfl rfl rfl inT4 rfl (by decide) w267 dX4_where_5 ?_
    refine tr_cVLP C (av := []) (st := []) (kX0_heapBits l g cs ad 40 fl40 σ) mwX0_heapBits w741 (fl_0 fl40) rfl ⟨rfl, rfl⟩ ⟨(Nat.le_of_ble_eq_true rfl), (Nat.le_of_ble_eq_true rfl)⟩ rfl rfl (Nat.le_of_ble_eq_true rfl) dX4_where_8 (fun r6 hr6 => ?_)
    exact tr_lret C hr hlk dX4_where_11
  · refine tr_iload_n C (i := 1) dX4_where_12 rfl rfl ?_
    refine tr_iconst C (v := 1) dX4_where_13 (by decide) ?_
    refine tr_icmp_ne C (tgt := 25) dX4_where_14 (by decide) (fun q5 => ?_) (fun q5 => ?_)
    · refine tr_aload_n C (i := 0) dX4_where_17 rfl rfl ?_
      refine tr_getR C (k := 3) (ci := 4) rfl rfl rfl inT4 rfl (by decide) w267 dX4_where_18 ?_
      refine tr_getL C (k := 3) (ci := 0) (fl_0 fl40) rfl rfl inT0 rfl (by decide) w229 dX4_where_21 ?_
      exact tr_lret C hr hlk dX4_where_24
    · refine tr_iload_n C (i := 1) dX4_where_25 rfl rfl ?_
      refine tr_bipush C (v := 10) dX4_where_26 (by decide) ?_
      refine tr_icmp_lt C (tgt := 45) dX4_where_28 (by decide) (fun q4 => ?_) (fun q4 => ?_)
      · refine tr_ldc2 C (v := -4611686018427387904) w742 dX4_where_45 ?_
        exact tr_lret C hr hlk dX4_where_48
      · refine tr_aload_n C (i := 0) dX4_where_31 rfl rfl ?_
        refine tr_getR C (k := 3) (ci := 4) rfl rfl rfl inT4 rfl (by decide) w267 dX4_where_32 ?_
        refine tr_iload_n C (i := 1) dX4_where_35 rfl rfl ?_
        refine tr_bipush C (v := 10) dX4_where_36 (by decide) ?_
        refine tr_isub C dX4_where_38 ?_
        refine tr_cVIP C (av := [.int (a1 - 10)]) (st := []) (kX0_has l g cs ad 40 (a1 - 10) fl40 σ) mwX0_has w323 (fl_0 fl40) rfl ⟨rfl, rfl⟩ ⟨(Nat.le_of_ble_eq_true rfl), (Nat.le_of_ble_eq_true rfl)⟩ rfl rfl (Nat.le_of_ble_eq_true rfl) dX4_where_39 (fun r1 hr1 => ?_)
        refine tr_if_ne C (tgt := 49) dX4_where_42 (by decide) (fun q3 => ?_) (fun q3 => ?_)
        · refine tr_ldc2 C (v := -4611686018427387904) w742 dX4_where_45 ?_
          exact tr_lret C hr hlk dX4_where_48
        · refine tr_aload_n C (i := 0) dX4_where_49 rfl rfl ?_
          refine tr_iload_n C (i := 1) dX4_where_50 rfl rfl ?_
          refine tr_bipush C (v := 10) dX4_where_51 (by decide) ?_
          refine tr_isub C dX4_where_53 ?_
          refine tr_cVL C (av := [.int (a1 - 10)]) (st := []) (kX4_reached l g cs ad (a1 - 10) σ) mwX4_reached w743 rfl rfl ⟨rfl, rfl⟩ ⟨(Nat.le_of_ble_eq_true rfl), (Nat.le_of_ble_eq_true rfl)⟩ rfl rfl (Nat.le_of_ble_eq_true rfl) dX4_where_54 (fun r2 σ2 hr2 => ?_)
          exact tr_lret C hr hlk dX4_where_57
def fX4_lastGathering_L2 (a1 : Int32) (ih2 : Mem × Int32 → Option (Int32 × Mem)) : Mem × Int32 → Option (Int32 × Mem) := fun v => match v with
  | (σ2, y2_2) =>
    if 24 ≤ y2_2 then (
      some (-1, σ2)
    ) else (
      bn1 (fX0_become 58 52 σ2) fun σ1 => (
        bnd (fX0_brush 58 y2_2 σ1) fun r2 σ2 => (
          bn1 (fX0_areGathered 58 a1 σ2) fun r3 => (
            if r3 = 0 then (
              ih2 (σ2, y2_2 + 1)
            ) else (
              some (y2_2, σ2)
            )
          )
        )
      )
    )
def fX4_lastGathering (a1 : Int32) (σ : Mem) : Option (Int32 × Mem) :=
  loopN (fX4_lastGathering_L2 a1) 1000 (σ, 0)
set_option maxHeartbeats 4000000 in
set_option maxRecDepth 100000 in
theorem kX4_lastGathering (l : Launch) (g : GG) (cs : CS) (ad : Nat → Nat) (a1 : Int32) (σ : Mem) : CtI l g cs ad (shC g) mX4_lastGathering (.code mX4_lastGathering cX4_lastGathering 3 (some .int)) { frames := 4, cells := 0, slots := 0, locals := 94 } [.ref (ad 0), .int a1] σ (fX4_lastGathering a1 σ) := by
  refine ctI_intro (own := "KinInTheHeap") (by decide +kernel) rfl [some (.ref (ad 0)), some (.int a1), none] (Nat.le_of_ble_eq_true rfl) rfl ?_
  intro p e s m args below meth c A C hr hlk
  refine tr_iconst C (v := 0) dX4_lastGathering_0 (by decide) ?_
  refine tr_istore_n C (i := 2) (lv' := [some (.ref (ad 0)), some (.int a1), some (.int 0)]) dX4_lastGathering_1 rfl (by decide) rfl ?_
  refine tr_loop (b := fX4_lastGathering_L2 a1) (sg := fun v => v.1) (lw := fun v => [some (.ref (ad 0)), some (.int a1), some (.int v.2)]) (sw := fun v => []) (fun ih2 IH2 v => ?_) 1000 (σ, 0)
  obtain ⟨σ2, y2_2⟩ := v
  refine tr_st (σ' := σ2) (lv' := [some (.ref (ad 0)), some (.int a1), some (.int y2_2)]) (st' := []) rfl rfl rfl ?_
  refine tr_iload_n C (i := 2) dX4_lastGathering_2 rfl rfl ?_
  refine tr_bipush C (v := 24) dX4_lastGathering_3 (by decide) ?_
  refine tr_icmp_ge C (tgt := 47) dX4_lastGathering_5 (by decide) (fun q5 => ?_) (fun q5 => ?_)
  · refine tr_iconst C (v := -1) dX4_lastGathering_47 (by decide) ?_
    exact tr_iret C hr hlk dX4_lastGathering_48
  · refine tr_aload_n C (i := 0) dX4_lastGathering_8 rfl rfl ?_
    refine tr_getR C (k := 6) (ci := 4) rfl rfl rfl inT4 rfl (by decide) w270 dX4_lastGathering_9 ?_
    refine tr_aload_n C (i := 0) dX4_lastGathering_12 rfl rfl ?_
    refine tr_getR C (k := 5) (ci := 4) rfl rfl rfl inT4 rfl (by decide) w269 dX4_lastGathering_13 ?_
    refine tr_cVV C (av := [.ref (ad 52)]) (st := []) (kX0_become l g cs ad 58 52 fl58 fl52 σ2) mwX0_become w687 (fl_0 fl58) rfl ⟨rfl, rfl⟩ ⟨(Nat.le_of_ble_eq_true rfl), (Nat.le_of_ble_eq_true rfl)⟩ rfl rfl (Nat.le_of_ble_eq_true rfl) dX4_lastGathering_16 (fun σ1 hr1 => ?_)
    refine tr_aload_n C (i := 0) dX4_lastGathering_19 rfl rfl ?_
    refine tr_getR C (k := 6) (ci := 4) rfl rfl rfl inT4 rfl (by decide) w270 dX4_lastGathering_20 ?_
    refine tr_iload_n C (i := 2) dX4_lastGathering_23 rfl rfl ?_
    refine tr_cVI C (av := [.int y2_2]) (st := []) (kX0_brush l g cs ad 58 y2_2 fl58 σ1) mwX0_brush w639 (fl_0 fl58) rfl ⟨rfl, rfl⟩ ⟨(Nat.le_of_ble_eq_true rfl), (Nat.le_of_ble_eq_true rfl)⟩ rfl rfl (Nat.le_of_ble_eq_true rfl) dX4_lastGathering_24 (fun r2 σ2 hr2 => ?_)
    refine tr_pop C dX4_lastGathering_27 rfl ?_
    refine tr_aload_n C (i := 0) dX4_lastGathering_28 rfl rfl ?_
    refine tr_getR C (k := 6) (ci := 4) rfl rfl rfl inT4 rfl (by decide) w270 dX4_lastGathering_29 ?_
    refine tr_iload_n C (i := 1) dX4_lastGathering_32 rfl rfl ?_
    refine tr_cVIP C (av := [.int a1]) (st := []) (kX0_areGathered l g cs ad 58 a1 fl58 σ2) mwX0_areGathered w759 (fl_0 fl58) rfl ⟨rfl, rfl⟩ ⟨(Nat.le_of_ble_eq_true rfl), (Nat.le_of_ble_eq_true rfl)⟩ rfl rfl (Nat.le_of_ble_eq_true rfl) dX4_lastGathering_33 (fun r3 hr3 => ?_)
    refine tr_if_eq C (tgt := 41) dX4_lastGathering_36 (by decide) (fun q4 => ?_) (fun q4 => ?_)
    · refine tr_iinc C (i := 2) (d := 1) (lv' := [some (.ref (ad 0)), some (.int a1), some (.int (y2_2 + 1))]) dX4_lastGathering_41 rfl (by decide) (by decide) rfl ?_
      refine tr_goto C (tgt := 2) dX4_lastGathering_44 (by decide) ?_
      exact IH2 (σ2, y2_2 + 1)
    · refine tr_iload_n C (i := 2) dX4_lastGathering_39 rfl rfl ?_
      exact tr_iret C hr hlk dX4_lastGathering_40
def fX4_gathering_b71 (a1 : Int32) (σ71 : Mem) (y2_71 : Int32) (y3_71 : Int32) : Option (Int32 × Mem) :=
  some (((100 * (y2_71 + 1)) + y3_71) + 1, σ71)
def fX4_gathering_L49 (a1 : Int32) (ih49 : Mem × Int32 → Option (Int32 × Mem)) : Mem × Int32 → Option (Int32 × Mem) := fun v => match v with
  | (σ49, y2_49) =>
    if 24 ≤ y2_49 then (
      some (-1, σ49)
    ) else (
      bn1 (fX4_think y2_49 σ49) fun σ2 => (
        bnd (fX4_lastGathering a1 σ2) fun r3 σ3 => (
          if r3 = (-1) then (
            ih49 (σ3, y2_49 + 1)
          ) else (
            fX4_gathering_b71 a1 σ3 y2_49 r3
          )
        )
      )
    )
def fX4_gathering_L15 (a1 : Int32) (ih15 : Mem × Int32 → Option (Int32 × Mem)) : Mem × Int32 → Option (Int32 × Mem) := fun v => match v with
  | (σ15, y2_15) =>
    if 24 ≤ y2_15 then (
      loopN (fX4_gathering_L49 a1) 1000 (σ15, 0)
    ) else (
      bn1 (fX4_think y2_15 σ15) fun σ6 => (
        bn1 (fX0_areGathered 52 a1 σ6) fun r7 => (
          if r7 = 0 then (
            ih15 (σ6, y2_15 + 1)
          ) else (
            some (y2_15 + 1, σ6)
          )
        )
      )
    )
def fX4_gathering (a1 : Int32) (σ : Mem) : Option (Int32 × Mem) :=
  bn1 (fX0_areGathered 40 a1 σ) fun r1 => (
    if r1 = 0 then (
      loopN (fX4_gathering_L15 a1) 1000 (σ, 0)
    ) else (
      some (0, σ)
    )
  )
set_option maxHeartbeats 4000000 in
set_option maxRecDepth 100000 in
theorem kX4_gathering (l : Launch) (g : GG) (cs : CS) (ad : Nat → Nat) (a1 : Int32) (σ : Mem) : CtI l g cs ad (shC g) mX4_gathering (.code mX4_gathering cX4_gathering 4 (some .int)) { frames := 5, cells := 0, slots := 0, locals := 116 } [.ref (ad 0), .int a1] σ (fX4_gathering a1 σ) := by
  refine ctI_intro (own := "KinInTheHeap") (by decide +kernel) rfl [some (.ref (ad 0)), some (.int a1), none, none] (Nat.le_of_ble_eq_true rfl) rfl ?_
  intro p e s m args below meth c A C hr hlk
  refine tr_aload_n C (i := 0) dX4_gathering_0 rfl rfl ?_
  refine tr_getR C (k := 3) (ci := 4) rfl rfl rfl inT4 rfl (by decide) w267 dX4_gathering_1 ?_
  refine tr_iload_n C (i := 1) dX4_gathering_4 rfl rfl ?_
  refine tr_cVIP C (av := [.int a1]) (st := []) (kX0_areGathered l g cs ad 40 a1 fl40 σ) mwX0_areGathered w759 (fl_0 fl40) rfl ⟨rfl, rfl⟩ ⟨(Nat.le_of_ble_eq_true rfl), (Nat.le_of_ble_eq_true rfl)⟩ rfl rfl (Nat.le_of_ble_eq_true rfl) dX4_gathering_5 (fun r1 hr1 => ?_)
  refine tr_if_eq C (tgt := 13) dX4_gathering_8 (by decide) (fun q10 => ?_) (fun q10 => ?_)
  · refine tr_iconst C (v := 0) dX4_gathering_13 (by decide) ?_
    refine tr_istore_n C (i := 2) (lv' := [some (.ref (ad 0)), some (.int a1), some (.int 0), none]) dX4_gathering_14 rfl (by decide) rfl ?_
    refine tr_loop (b := fX4_gathering_L15 a1) (sg := fun v => v.1) (lw := fun v => [some (.ref (ad 0)), some (.int a1), some (.int v.2), none]) (sw := fun v => []) (fun ih15 IH15 v => ?_) 1000 (σ, 0)
    obtain ⟨σ15, y2_15⟩ := v
    refine tr_st (σ' := σ15) (lv' := [some (.ref (ad 0)), some (.int a1), some (.int y2_15), none]) (st' := []) rfl rfl rfl ?_
    refine tr_iload_n C (i := 2) dX4_gathering_15 rfl rfl ?_
    refine tr_bipush C (v := 24) dX4_gathering_16 (by decide) ?_
    refine tr_icmp_ge C (tgt := 47) dX4_gathering_18 (by decide) (fun q9 => ?_) (fun q9 => ?_)
    · refine tr_iconst C (v := 0) dX4_gathering_47 (by decide) ?_
      refine tr_istore_n C (i := 2) (lv' := [some (.ref (ad 0)), some (.int a1), some (.int 0), none]) dX4_gathering_48 rfl (by decide) rfl ?_
      refine tr_loop (b := fX4_gathering_L49 a1) (sg := fun v => v.1) (lw := fun v => [some (.ref (ad 0)), some (.int a1), some (.int v.2), none]) (sw := fun v => []) (fun ih49 IH49 v => ?_) 1000 (σ15, 0)
      obtain ⟨σ49, y2_49⟩ := v
      refine tr_st (σ' := σ49) (lv' := [some (.ref (ad 0)), some (.int a1), some (.int y2_49), none]) (st' := []) rfl rfl rfl ?_
      refine tr_iload_n C (i := 2) dX4_gathering_49 rfl rfl ?_
      refine tr_bipush C (v := 24) dX4_gathering_50 (by decide) ?_
      refine tr_icmp_ge C (tgt := 88) dX4_gathering_52 (by decide) (fun q5 => ?_) (fun q5 => ?_)
      · refine tr_iconst C (v := -1) dX4_gathering_88 (by decide) ?_
        exact tr_iret C hr hlk dX4_gathering_89
      · refine tr_aload_n C (i := 0) dX4_gathering_55 rfl rfl ?_
        refine tr_iload_n C (i := 2) dX4_gathering_56 rfl rfl ?_
        refine tr_cVV C (av := [.int y2_49]) (st := []) (kX4_think l g cs ad y2_49 σ49) mwX4_think w747 rfl rfl ⟨rfl, rfl⟩ ⟨(Nat.le_of_ble_eq_true rfl), (Nat.le_of_ble_eq_true rfl)⟩ rfl rfl (Nat.le_of_ble_eq_true rfl) dX4_gathering_57 (fun σ2 hr2 => ?_)
        refine tr_aload_n C (i := 0) dX4_gathering_60 rfl rfl ?_
        refine tr_iload_n C (i := 1) dX4_gathering_61 rfl rfl ?_
        refine tr_cVI C (av := [.int a1]) (st := []) (kX4_lastGathering l g cs ad a1 σ2) mwX4_lastGathering w763 rfl rfl ⟨rfl, rfl⟩ ⟨(Nat.le_of_ble_eq_true rfl), (Nat.le_of_ble_eq_true rfl)⟩ rfl rfl (Nat.le_of_ble_eq_true rfl) dX4_gathering_62 (fun r3 σ3 hr3 => ?_)
        refine tr_istore_n C (i := 3) (lv' := [some (.ref (ad 0)), some (.int a1), some (.int y2_49), some (.int r3)]) dX4_gathering_65 rfl (by decide) rfl ?_
        refine tr_iload_n C (i := 3) dX4_gathering_66 rfl rfl ?_
        refine tr_iconst C (v := -1) dX4_gathering_67 (by decide) ?_
        have B71 : ∀ (σ71 : Mem) (y2_71 : Int32) (y3_71 : Int32), Tr p l e { frames := 5, cells := 0, slots := 0, locals := 116 } s m args below meth c g ad (shC g) A 4 (QI g ad (shC g) A below args s) (fX4_gathering_b71 a1 σ71 y2_71 y3_71) σ71 71 [none, none, some (.int y2_71), some (.int y3_71)] [] := by
          intro σ71 y2_71 y3_71
          refine tr_bipush C (v := 100) dX4_gathering_71 (by decide) ?_
          refine tr_iload_n C (i := 2) dX4_gathering_73 rfl rfl ?_
          refine tr_iconst C (v := 1) dX4_gathering_74 (by decide) ?_
          refine tr_iadd C dX4_gathering_75 ?_
          refine tr_imul C dX4_gathering_76 ?_
          refine tr_iload_n C (i := 3) dX4_gathering_77 rfl rfl ?_
          refine tr_iadd C dX4_gathering_78 ?_
          refine tr_iconst C (v := 1) dX4_gathering_79 (by decide) ?_
          refine tr_iadd C dX4_gathering_80 ?_
          exact tr_iret C hr hlk dX4_gathering_81
        refine tr_icmp_eq C (tgt := 82) dX4_gathering_68 (by decide) (fun q4 => ?_) (fun q4 => ?_)
        · refine tr_iinc C (i := 2) (d := 1) (lv' := [some (.ref (ad 0)), some (.int a1), some (.int (y2_49 + 1)), some (.int r3)]) dX4_gathering_82 rfl (by decide) (by decide) rfl ?_
          refine tr_goto C (tgt := 49) dX4_gathering_85 (by decide) ?_
          refine tr_mask [true, true, true, false] rfl ?_
          exact IH49 (σ3, y2_49 + 1)
        · refine tr_mask [false, false, true, true] rfl ?_
          exact B71 σ3 y2_49 r3
    · refine tr_aload_n C (i := 0) dX4_gathering_21 rfl rfl ?_
      refine tr_iload_n C (i := 2) dX4_gathering_22 rfl rfl ?_
      refine tr_cVV C (av := [.int y2_15]) (st := []) (kX4_think l g cs ad y2_15 σ15) mwX4_think w747 rfl rfl ⟨rfl, rfl⟩ ⟨(Nat.le_of_ble_eq_true rfl), (Nat.le_of_ble_eq_true rfl)⟩ rfl rfl (Nat.le_of_ble_eq_true rfl) dX4_gathering_23 (fun σ6 hr6 => ?_)
      refine tr_aload_n C (i := 0) dX4_gathering_26 rfl rfl ?_
      refine tr_getR C (k := 5) (ci := 4) rfl rfl rfl inT4 rfl (by decide) w269 dX4_gathering_27 ?_
      refine tr_iload_n C (i := 1) dX4_gathering_30 rfl rfl ?_
      refine tr_cVIP C (av := [.int a1]) (st := []) (kX0_areGathered l g cs ad 52 a1 fl52 σ6) mwX0_areGathered w759 (fl_0 fl52) rfl ⟨rfl, rfl⟩ ⟨(Nat.le_of_ble_eq_true rfl), (Nat.le_of_ble_eq_true rfl)⟩ rfl rfl (Nat.le_of_ble_eq_true rfl) dX4_gathering_31 (fun r7 hr7 => ?_)
      refine tr_if_eq C (tgt := 41) dX4_gathering_34 (by decide) (fun q8 => ?_) (fun q8 => ?_)
      · refine tr_iinc C (i := 2) (d := 1) (lv' := [some (.ref (ad 0)), some (.int a1), some (.int (y2_15 + 1)), none]) dX4_gathering_41 rfl (by decide) (by decide) rfl ?_
        refine tr_goto C (tgt := 15) dX4_gathering_44 (by decide) ?_
        exact IH15 (σ6, y2_15 + 1)
      · refine tr_iload_n C (i := 2) dX4_gathering_37 rfl rfl ?_
        refine tr_iconst C (v := 1) dX4_gathering_38 (by decide) ?_
        refine tr_iadd C dX4_gathering_39 ?_
        exact tr_iret C hr hlk dX4_gathering_40
  · refine tr_iconst C (v := 0) dX4_gathering_11 (by decide) ?_
    exact tr_iret C hr hlk dX4_gathering_12
def fX4_gather (a1 : Int32) (a2 : Int32) (σ : Mem) : Option (Int32 × Mem) :=
  bn1 (fX4_within a1 1 ((1 <<< ((σ.1 40 7) &&& 31)) - 1) σ) fun r1 => (
    if r1 = 0 then (
      some (-2, σ)
    ) else (
      bn1 (fX4_within a2 0 1 σ) fun r2 => (
        if r2 = 0 then (
          some (-2, σ)
        ) else (
          bnd (fX4_gathering a1 σ) fun r3 σ3 => (
            if a2 = 1 then (
              some (r3, σ3)
            ) else (
              if 0 < r3 then (
                if 100 ≤ r3 then (
                  some (2, σ3)
                ) else (
                  some (1, σ3)
                )
              ) else (
                some (r3, σ3)
              )
            )
          )
        )
      )
    )
  )
set_option maxHeartbeats 4000000 in
set_option maxRecDepth 100000 in
theorem kX4_gather (l : Launch) (g : GG) (cs : CS) (ad : Nat → Nat) (a1 : Int32) (a2 : Int32) (σ : Mem) : CtI l g cs ad (shC g) mX4_gather (.code mX4_gather cX4_gather 4 (some .int)) { frames := 6, cells := 0, slots := 0, locals := 139 } [.ref (ad 0), .int a1, .int a2] σ (fX4_gather a1 a2 σ) := by
  refine ctI_intro (own := "KinInTheHeap") (by decide +kernel) rfl [some (.ref (ad 0)), some (.int a1), some (.int a2), none] (Nat.le_of_ble_eq_true rfl) rfl ?_
  intro p e s m args below meth c A C hr hlk
  refine tr_iload_n C (i := 1) dX4_gather_0 rfl rfl ?_
  refine tr_iconst C (v := 1) dX4_gather_1 (by decide) ?_
  refine tr_iconst C (v := 1) dX4_gather_2 (by decide) ?_
  refine tr_aload_n C (i := 0) dX4_gather_3 rfl rfl ?_
  refine tr_getR C (k := 3) (ci := 4) rfl rfl rfl inT4 rfl (by decide) w267 dX4_gather_4 ?_
  refine tr_getI C (k := 7) (ci := 0) (fl_0 fl40) rfl rfl inT0 rfl (by decide) w237 dX4_gather_7 ?_
  refine tr_ishl C dX4_gather_10 ?_
  refine tr_iconst C (v := 1) dX4_gather_11 (by decide) ?_
  refine tr_isub C dX4_gather_12 ?_
  refine tr_cSIP C (av := [.int a1, .int 1, .int ((1 <<< ((σ.1 40 7) &&& 31)) - 1)]) (st := []) (kX4_within l g cs ad a1 1 ((1 <<< ((σ.1 40 7) &&& 31)) - 1) σ) mwX4_within w300 ⟨rfl, rfl⟩ ⟨(Nat.le_of_ble_eq_true rfl), (Nat.le_of_ble_eq_true rfl)⟩ rfl rfl (Nat.le_of_ble_eq_true rfl) dX4_gather_13 (fun r1 hr1 => ?_)
  refine tr_if_eq C (tgt := 28) dX4_gather_16 (by decide) (fun q8 => ?_) (fun q8 => ?_)
  · refine tr_bipush C (v := -2) dX4_gather_28 (by decide) ?_
    exact tr_iret C hr hlk dX4_gather_30
  · refine tr_iload_n C (i := 2) dX4_gather_19 rfl rfl ?_
    refine tr_iconst C (v := 0) dX4_gather_20 (by decide) ?_
    refine tr_iconst C (v := 1) dX4_gather_21 (by decide) ?_
    refine tr_cSIP C (av := [.int a2, .int 0, .int 1]) (st := []) (kX4_within l g cs ad a2 0 1 σ) mwX4_within w300 ⟨rfl, rfl⟩ ⟨(Nat.le_of_ble_eq_true rfl), (Nat.le_of_ble_eq_true rfl)⟩ rfl rfl (Nat.le_of_ble_eq_true rfl) dX4_gather_22 (fun r2 hr2 => ?_)
    refine tr_if_ne C (tgt := 31) dX4_gather_25 (by decide) (fun q7 => ?_) (fun q7 => ?_)
    · refine tr_bipush C (v := -2) dX4_gather_28 (by decide) ?_
      exact tr_iret C hr hlk dX4_gather_30
    · refine tr_aload_n C (i := 0) dX4_gather_31 rfl rfl ?_
      refine tr_iload_n C (i := 1) dX4_gather_32 rfl rfl ?_
      refine tr_cVI C (av := [.int a1]) (st := []) (kX4_gathering l g cs ad a1 σ) mwX4_gathering w755 rfl rfl ⟨rfl, rfl⟩ ⟨(Nat.le_of_ble_eq_true rfl), (Nat.le_of_ble_eq_true rfl)⟩ rfl rfl (Nat.le_of_ble_eq_true rfl) dX4_gather_33 (fun r3 σ3 hr3 => ?_)
      refine tr_istore_n C (i := 3) (lv' := [some (.ref (ad 0)), some (.int a1), some (.int a2), some (.int r3)]) dX4_gather_36 rfl (by decide) rfl ?_
      refine tr_iload_n C (i := 2) dX4_gather_37 rfl rfl ?_
      refine tr_iconst C (v := 1) dX4_gather_38 (by decide) ?_
      refine tr_icmp_eq C (tgt := 46) dX4_gather_39 (by decide) (fun q6 => ?_) (fun q6 => ?_)
      · refine tr_iload_n C (i := 3) dX4_gather_46 rfl rfl ?_
        exact tr_iret C hr hlk dX4_gather_47
      · refine tr_iload_n C (i := 3) dX4_gather_42 rfl rfl ?_
        refine tr_if_gt C (tgt := 48) dX4_gather_43 (by decide) (fun q5 => ?_) (fun q5 => ?_)
        · refine tr_iload_n C (i := 3) dX4_gather_48 rfl rfl ?_
          refine tr_bipush C (v := 100) dX4_gather_49 (by decide) ?_
          refine tr_icmp_ge C (tgt := 58) dX4_gather_51 (by decide) (fun q4 => ?_) (fun q4 => ?_)
          · refine tr_iconst C (v := 2) dX4_gather_58 (by decide) ?_
            exact tr_iret C hr hlk dX4_gather_59
          · refine tr_iconst C (v := 1) dX4_gather_54 (by decide) ?_
            refine tr_goto C (tgt := 59) dX4_gather_55 (by decide) ?_
            exact tr_iret C hr hlk dX4_gather_59
        · refine tr_iload_n C (i := 3) dX4_gather_46 rfl rfl ?_
          exact tr_iret C hr hlk dX4_gather_47
def fX4_mostTogether_L6 (ih6 : Mem × Int32 × Int32 × Int32 → Option (Int32 × Mem)) : Mem × Int32 × Int32 × Int32 → Option (Int32 × Mem) := fun v => match v with
  | (σ6, y1_6, y2_6, y3_6) =>
    if 24 ≤ y3_6 then (
      some (y1_6, σ6)
    ) else (
      bn1 (fX4_think y3_6 σ6) fun σ1 => (
        bn1 (fX0_together 52 σ1) fun r2 => (
          if r2 ≤ y2_6 then (
            ih6 (σ1, y1_6, y2_6, y3_6 + 1)
          ) else (
            ih6 (σ1, y3_6, r2, y3_6 + 1)
          )
        )
      )
    )
def fX4_mostTogether (σ : Mem) : Option (Int32 × Mem) :=
  loopN (fX4_mostTogether_L6) 1000 (σ, 0, -1, 0)
set_option maxHeartbeats 4000000 in
set_option maxRecDepth 100000 in
theorem kX4_mostTogether (l : Launch) (g : GG) (cs : CS) (ad : Nat → Nat) (σ : Mem) : CtI l g cs ad (shC g) mX4_mostTogether (.code mX4_mostTogether cX4_mostTogether 5 (some .int)) { frames := 5, cells := 0, slots := 0, locals := 115 } [.ref (ad 0)] σ (fX4_mostTogether σ) := by
  refine ctI_intro (own := "KinInTheHeap") (by decide +kernel) rfl [some (.ref (ad 0)), none, none, none, none] (Nat.le_of_ble_eq_true rfl) rfl ?_
  intro p e s m args below meth c A C hr hlk
  refine tr_iconst C (v := 0) dX4_mostTogether_0 (by decide) ?_
  refine tr_istore_n C (i := 1) (lv' := [some (.ref (ad 0)), some (.int 0), none, none, none]) dX4_mostTogether_1 rfl (by decide) rfl ?_
  refine tr_iconst C (v := -1) dX4_mostTogether_2 (by decide) ?_
  refine tr_istore_n C (i := 2) (lv' := [some (.ref (ad 0)), some (.int 0), some (.int (-1)), none, none]) dX4_mostTogether_3 rfl (by decide) rfl ?_
  refine tr_iconst C (v := 0) dX4_mostTogether_4 (by decide) ?_
  refine tr_istore_n C (i := 3) (lv' := [some (.ref (ad 0)), some (.int 0), some (.int (-1)), some (.int 0), none]) dX4_mostTogether_5 rfl (by decide) rfl ?_
  refine tr_loop (b := fX4_mostTogether_L6) (sg := fun v => v.1) (lw := fun v => [some (.ref (ad 0)), some (.int v.2.1), some (.int v.2.2.1), some (.int v.2.2.2), none]) (sw := fun v => []) (fun ih6 IH6 v => ?_) 1000 (σ, 0, -1, 0)
  obtain ⟨σ6, y1_6, y2_6, y3_6⟩ := v
  refine tr_st (σ' := σ6) (lv' := [some (.ref (ad 0)), some (.int y1_6), some (.int y2_6), some (.int y3_6), none]) (st' := []) rfl rfl rfl ?_
  refine tr_iload_n C (i := 3) dX4_mostTogether_6 rfl rfl ?_
  refine tr_bipush C (v := 24) dX4_mostTogether_7 (by decide) ?_
  refine tr_icmp_ge C (tgt := 43) dX4_mostTogether_9 (by decide) (fun q4 => ?_) (fun q4 => ?_)
  · refine tr_iload_n C (i := 1) dX4_mostTogether_43 rfl rfl ?_
    exact tr_iret C hr hlk dX4_mostTogether_44
  · refine tr_aload_n C (i := 0) dX4_mostTogether_12 rfl rfl ?_
    refine tr_iload_n C (i := 3) dX4_mostTogether_13 rfl rfl ?_
    refine tr_cVV C (av := [.int y3_6]) (st := []) (kX4_think l g cs ad y3_6 σ6) mwX4_think w747 rfl rfl ⟨rfl, rfl⟩ ⟨(Nat.le_of_ble_eq_true rfl), (Nat.le_of_ble_eq_true rfl)⟩ rfl rfl (Nat.le_of_ble_eq_true rfl) dX4_mostTogether_14 (fun σ1 hr1 => ?_)
    refine tr_aload_n C (i := 0) dX4_mostTogether_17 rfl rfl ?_
    refine tr_getR C (k := 5) (ci := 4) rfl rfl rfl inT4 rfl (by decide) w269 dX4_mostTogether_18 ?_
    refine tr_cVIP C (av := []) (st := []) (kX0_together l g cs ad 52 fl52 σ1) mwX0_together w700 (fl_0 fl52) rfl ⟨rfl, rfl⟩ ⟨(Nat.le_of_ble_eq_true rfl), (Nat.le_of_ble_eq_true rfl)⟩ rfl rfl (Nat.le_of_ble_eq_true rfl) dX4_mostTogether_21 (fun r2 hr2 => ?_)
    refine tr_istore C (i := 4) (lv' := [some (.ref (ad 0)), some (.int y1_6), some (.int y2_6), some (.int y3_6), some (.int r2)]) dX4_mostTogether_24 (by decide) rfl ?_
    refine tr_iload C (i := 4) dX4_mostTogether_26 rfl ?_
    refine tr_iload_n C (i := 2) dX4_mostTogether_28 rfl rfl ?_
    refine tr_icmp_le C (tgt := 37) dX4_mostTogether_29 (by decide) (fun q3 => ?_) (fun q3 => ?_)
    · refine tr_iinc C (i := 3) (d := 1) (lv' := [some (.ref (ad 0)), some (.int y1_6), some (.int y2_6), some (.int (y3_6 + 1)), some (.int r2)]) dX4_mostTogether_37 rfl (by decide) (by decide) rfl ?_
      refine tr_goto C (tgt := 6) dX4_mostTogether_40 (by decide) ?_
      refine tr_mask [true, true, true, true, false] rfl ?_
      exact IH6 (σ1, y1_6, y2_6, y3_6 + 1)
    · refine tr_iload C (i := 4) dX4_mostTogether_32 rfl ?_
      refine tr_istore_n C (i := 2) (lv' := [some (.ref (ad 0)), some (.int y1_6), some (.int r2), some (.int y3_6), some (.int r2)]) dX4_mostTogether_34 rfl (by decide) rfl ?_
      refine tr_iload_n C (i := 3) dX4_mostTogether_35 rfl rfl ?_
      refine tr_istore_n C (i := 1) (lv' := [some (.ref (ad 0)), some (.int y3_6), some (.int r2), some (.int y3_6), some (.int r2)]) dX4_mostTogether_36 rfl (by decide) rfl ?_
      refine tr_iinc C (i := 3) (d := 1) (lv' := [some (.ref (ad 0)), some (.int y3_6), some (.int r2), some (.int (y3_6 + 1)), some (.int r2)]) dX4_mostTogether_37 rfl (by decide) (by decide) rfl ?_
      refine tr_goto C (tgt := 6) dX4_mostTogether_40 (by decide) ?_
      refine tr_mask [true, true, true, true, false] rfl ?_
      exact IH6 (σ1, y3_6, r2, y3_6 + 1)
def fX4_leastSpread_L6 (ih6 : Mem × Int32 × Int32 × Int32 → Option (Int32 × Mem)) : Mem × Int32 × Int32 × Int32 → Option (Int32 × Mem) := fun v => match v with
  | (σ6, y1_6, y2_6, y3_6) =>
    if 24 ≤ y3_6 then (
      some (y1_6, σ6)
    ) else (
      bn1 (fX4_think y3_6 σ6) fun σ1 => (
        bn1 (fX0_spread 52 σ1) fun r2 => (
          if y2_6 < 0 then (
            ih6 (σ1, y3_6, r2, y3_6 + 1)
          ) else (
            if y2_6 ≤ r2 then (
              ih6 (σ1, y1_6, y2_6, y3_6 + 1)
            ) else (
              ih6 (σ1, y3_6, r2, y3_6 + 1)
            )
          )
        )
      )
    )
def fX4_leastSpread (σ : Mem) : Option (Int32 × Mem) :=
  loopN (fX4_leastSpread_L6) 1000 (σ, 0, -1, 0)
set_option maxHeartbeats 4000000 in
set_option maxRecDepth 100000 in
theorem kX4_leastSpread (l : Launch) (g : GG) (cs : CS) (ad : Nat → Nat) (σ : Mem) : CtI l g cs ad (shC g) mX4_leastSpread (.code mX4_leastSpread cX4_leastSpread 5 (some .int)) { frames := 5, cells := 0, slots := 0, locals := 115 } [.ref (ad 0)] σ (fX4_leastSpread σ) := by
  refine ctI_intro (own := "KinInTheHeap") (by decide +kernel) rfl [some (.ref (ad 0)), none, none, none, none] (Nat.le_of_ble_eq_true rfl) rfl ?_
  intro p e s m args below meth c A C hr hlk
  refine tr_iconst C (v := 0) dX4_leastSpread_0 (by decide) ?_
  refine tr_istore_n C (i := 1) (lv' := [some (.ref (ad 0)), some (.int 0), none, none, none]) dX4_leastSpread_1 rfl (by decide) rfl ?_
  refine tr_iconst C (v := -1) dX4_leastSpread_2 (by decide) ?_
  refine tr_istore_n C (i := 2) (lv' := [some (.ref (ad 0)), some (.int 0), some (.int (-1)), none, none]) dX4_leastSpread_3 rfl (by decide) rfl ?_
  refine tr_iconst C (v := 0) dX4_leastSpread_4 (by decide) ?_
  refine tr_istore_n C (i := 3) (lv' := [some (.ref (ad 0)), some (.int 0), some (.int (-1)), some (.int 0), none]) dX4_leastSpread_5 rfl (by decide) rfl ?_
  refine tr_loop (b := fX4_leastSpread_L6) (sg := fun v => v.1) (lw := fun v => [some (.ref (ad 0)), some (.int v.2.1), some (.int v.2.2.1), some (.int v.2.2.2), none]) (sw := fun v => []) (fun ih6 IH6 v => ?_) 1000 (σ, 0, -1, 0)
  obtain ⟨σ6, y1_6, y2_6, y3_6⟩ := v
  refine tr_st (σ' := σ6) (lv' := [some (.ref (ad 0)), some (.int y1_6), some (.int y2_6), some (.int y3_6), none]) (st' := []) rfl rfl rfl ?_
  refine tr_iload_n C (i := 3) dX4_leastSpread_6 rfl rfl ?_
  refine tr_bipush C (v := 24) dX4_leastSpread_7 (by decide) ?_
  refine tr_icmp_ge C (tgt := 47) dX4_leastSpread_9 (by decide) (fun q5 => ?_) (fun q5 => ?_)
  · refine tr_iload_n C (i := 1) dX4_leastSpread_47 rfl rfl ?_
    exact tr_iret C hr hlk dX4_leastSpread_48
  · refine tr_aload_n C (i := 0) dX4_leastSpread_12 rfl rfl ?_
    refine tr_iload_n C (i := 3) dX4_leastSpread_13 rfl rfl ?_
    refine tr_cVV C (av := [.int y3_6]) (st := []) (kX4_think l g cs ad y3_6 σ6) mwX4_think w747 rfl rfl ⟨rfl, rfl⟩ ⟨(Nat.le_of_ble_eq_true rfl), (Nat.le_of_ble_eq_true rfl)⟩ rfl rfl (Nat.le_of_ble_eq_true rfl) dX4_leastSpread_14 (fun σ1 hr1 => ?_)
    refine tr_aload_n C (i := 0) dX4_leastSpread_17 rfl rfl ?_
    refine tr_getR C (k := 5) (ci := 4) rfl rfl rfl inT4 rfl (by decide) w269 dX4_leastSpread_18 ?_
    refine tr_cVIP C (av := []) (st := []) (kX0_spread l g cs ad 52 fl52 σ1) mwX0_spread w718 (fl_0 fl52) rfl ⟨rfl, rfl⟩ ⟨(Nat.le_of_ble_eq_true rfl), (Nat.le_of_ble_eq_true rfl)⟩ rfl rfl (Nat.le_of_ble_eq_true rfl) dX4_leastSpread_21 (fun r2 hr2 => ?_)
    refine tr_istore C (i := 4) (lv' := [some (.ref (ad 0)), some (.int y1_6), some (.int y2_6), some (.int y3_6), some (.int r2)]) dX4_leastSpread_24 (by decide) rfl ?_
    refine tr_iload_n C (i := 2) dX4_leastSpread_26 rfl rfl ?_
    refine tr_if_lt C (tgt := 36) dX4_leastSpread_27 (by decide) (fun q4 => ?_) (fun q4 => ?_)
    · refine tr_iload C (i := 4) dX4_leastSpread_36 rfl ?_
      refine tr_istore_n C (i := 2) (lv' := [some (.ref (ad 0)), some (.int y1_6), some (.int r2), some (.int y3_6), some (.int r2)]) dX4_leastSpread_38 rfl (by decide) rfl ?_
      refine tr_iload_n C (i := 3) dX4_leastSpread_39 rfl rfl ?_
      refine tr_istore_n C (i := 1) (lv' := [some (.ref (ad 0)), some (.int y3_6), some (.int r2), some (.int y3_6), some (.int r2)]) dX4_leastSpread_40 rfl (by decide) rfl ?_
      refine tr_iinc C (i := 3) (d := 1) (lv' := [some (.ref (ad 0)), some (.int y3_6), some (.int r2), some (.int (y3_6 + 1)), some (.int r2)]) dX4_leastSpread_41 rfl (by decide) (by decide) rfl ?_
      refine tr_goto C (tgt := 6) dX4_leastSpread_44 (by decide) ?_
      refine tr_mask [true, true, true, true, false] rfl ?_
      exact IH6 (σ1, y3_6, r2, y3_6 + 1)
    · refine tr_iload C (i := 4) dX4_leastSpread_30 rfl ?_
      refine tr_iload_n C (i := 2) dX4_leastSpread_32 rfl rfl ?_
      refine tr_icmp_ge C (tgt := 41) dX4_leastSpread_33 (by decide) (fun q3 => ?_) (fun q3 => ?_)
      · refine tr_iinc C (i := 3) (d := 1) (lv' := [some (.ref (ad 0)), some (.int y1_6), some (.int y2_6), some (.int (y3_6 + 1)), some (.int r2)]) dX4_leastSpread_41 rfl (by decide) (by decide) rfl ?_
        refine tr_goto C (tgt := 6) dX4_leastSpread_44 (by decide) ?_
        refine tr_mask [true, true, true, true, false] rfl ?_
        exact IH6 (σ1, y1_6, y2_6, y3_6 + 1)
      · refine tr_iload C (i := 4) dX4_leastSpread_36 rfl ?_
        refine tr_istore_n C (i := 2) (lv' := [some (.ref (ad 0)), some (.int y1_6), some (.int r2), some (.int y3_6), some (.int r2)]) dX4_leastSpread_38 rfl (by decide) rfl ?_
        refine tr_iload_n C (i := 3) dX4_leastSpread_39 rfl rfl ?_
        refine tr_istore_n C (i := 1) (lv' := [some (.ref (ad 0)), some (.int y3_6), some (.int r2), some (.int y3_6), some (.int r2)]) dX4_leastSpread_40 rfl (by decide) rfl ?_
        refine tr_iinc C (i := 3) (d := 1) (lv' := [some (.ref (ad 0)), some (.int y3_6), some (.int r2), some (.int (y3_6 + 1)), some (.int r2)]) dX4_leastSpread_41 rfl (by decide) (by decide) rfl ?_
        refine tr_goto C (tgt := 6) dX4_leastSpread_44 (by decide) ?_
        refine tr_mask [true, true, true, true, false] rfl ?_
        exact IH6 (σ1, y3_6, r2, y3_6 + 1)
def fX4_fewestLost_L7 (ih7 : Mem × Int32 × Int32 × Int32 → Option (Int32 × Mem)) : Mem × Int32 × Int32 × Int32 → Option (Int32 × Mem) := fun v => match v with
  | (σ7, y1_7, y2_7, y3_7) =>
    if 24 ≤ y3_7 then (
      some (y1_7, σ7)
    ) else (
      bn1 (fX4_think y3_7 σ7) fun σ1 => (
        bn1 (fX0_outs 52 σ1) fun r2 => (
          if y2_7 ≤ r2 then (
            ih7 (σ1, y1_7, y2_7, y3_7 + 1)
          ) else (
            bn1 (fX0_differs 52 40 σ1) fun r3 => (
              if r3 = 0 then (
                ih7 (σ1, y1_7, y2_7, y3_7 + 1)
              ) else (
                ih7 (σ1, y3_7, r2, y3_7 + 1)
              )
            )
          )
        )
      )
    )
def fX4_fewestLost (σ : Mem) : Option (Int32 × Mem) :=
  loopN (fX4_fewestLost_L7) 1000 (σ, -1, 9, 0)
set_option maxHeartbeats 4000000 in
set_option maxRecDepth 100000 in
theorem kX4_fewestLost (l : Launch) (g : GG) (cs : CS) (ad : Nat → Nat) (σ : Mem) : CtI l g cs ad (shC g) mX4_fewestLost (.code mX4_fewestLost cX4_fewestLost 5 (some .int)) { frames := 5, cells := 0, slots := 0, locals := 115 } [.ref (ad 0)] σ (fX4_fewestLost σ) := by
  refine ctI_intro (own := "KinInTheHeap") (by decide +kernel) rfl [some (.ref (ad 0)), none, none, none, none] (Nat.le_of_ble_eq_true rfl) rfl ?_
  intro p e s m args below meth c A C hr hlk
  refine tr_iconst C (v := -1) dX4_fewestLost_0 (by decide) ?_
  refine tr_istore_n C (i := 1) (lv' := [some (.ref (ad 0)), some (.int (-1)), none, none, none]) dX4_fewestLost_1 rfl (by decide) rfl ?_
  refine tr_bipush C (v := 9) dX4_fewestLost_2 (by decide) ?_
  refine tr_istore_n C (i := 2) (lv' := [some (.ref (ad 0)), some (.int (-1)), some (.int 9), none, none]) dX4_fewestLost_4 rfl (by decide) rfl ?_
  refine tr_iconst C (v := 0) dX4_fewestLost_5 (by decide) ?_
  refine tr_istore_n C (i := 3) (lv' := [some (.ref (ad 0)), some (.int (-1)), some (.int 9), some (.int 0), none]) dX4_fewestLost_6 rfl (by decide) rfl ?_
  refine tr_loop (b := fX4_fewestLost_L7) (sg := fun v => v.1) (lw := fun v => [some (.ref (ad 0)), some (.int v.2.1), some (.int v.2.2.1), some (.int v.2.2.2), none]) (sw := fun v => []) (fun ih7 IH7 v => ?_) 1000 (σ, -1, 9, 0)
  obtain ⟨σ7, y1_7, y2_7, y3_7⟩ := v
  refine tr_st (σ' := σ7) (lv' := [some (.ref (ad 0)), some (.int y1_7), some (.int y2_7), some (.int y3_7), none]) (st' := []) rfl rfl rfl ?_
  refine tr_iload_n C (i := 3) dX4_fewestLost_7 rfl rfl ?_
  refine tr_bipush C (v := 24) dX4_fewestLost_8 (by decide) ?_
  refine tr_icmp_ge C (tgt := 58) dX4_fewestLost_10 (by decide) (fun q6 => ?_) (fun q6 => ?_)
  · refine tr_iload_n C (i := 1) dX4_fewestLost_58 rfl rfl ?_
    exact tr_iret C hr hlk dX4_fewestLost_59
  · refine tr_aload_n C (i := 0) dX4_fewestLost_13 rfl rfl ?_
    refine tr_iload_n C (i := 3) dX4_fewestLost_14 rfl rfl ?_
    refine tr_cVV C (av := [.int y3_7]) (st := []) (kX4_think l g cs ad y3_7 σ7) mwX4_think w747 rfl rfl ⟨rfl, rfl⟩ ⟨(Nat.le_of_ble_eq_true rfl), (Nat.le_of_ble_eq_true rfl)⟩ rfl rfl (Nat.le_of_ble_eq_true rfl) dX4_fewestLost_15 (fun σ1 hr1 => ?_)
    refine tr_aload_n C (i := 0) dX4_fewestLost_18 rfl rfl ?_
    refine tr_getR C (k := 5) (ci := 4) rfl rfl rfl inT4 rfl (by decide) w269 dX4_fewestLost_19 ?_
    refine tr_cVIP C (av := []) (st := []) (kX0_outs l g cs ad 52 fl52 σ1) mwX0_outs w783 (fl_0 fl52) rfl ⟨rfl, rfl⟩ ⟨(Nat.le_of_ble_eq_true rfl), (Nat.le_of_ble_eq_true rfl)⟩ rfl rfl (Nat.le_of_ble_eq_true rfl) dX4_fewestLost_22 (fun r2 hr2 => ?_)
    refine tr_istore C (i := 4) (lv' := [some (.ref (ad 0)), some (.int y1_7), some (.int y2_7), some (.int y3_7), some (.int r2)]) dX4_fewestLost_25 (by decide) rfl ?_
    refine tr_iload C (i := 4) dX4_fewestLost_27 rfl ?_
    refine tr_iload_n C (i := 2) dX4_fewestLost_29 rfl rfl ?_
    refine tr_icmp_ge C (tgt := 52) dX4_fewestLost_30 (by decide) (fun q5 => ?_) (fun q5 => ?_)
    · refine tr_iinc C (i := 3) (d := 1) (lv' := [some (.ref (ad 0)), some (.int y1_7), some (.int y2_7), some (.int (y3_7 + 1)), some (.int r2)]) dX4_fewestLost_52 rfl (by decide) (by decide) rfl ?_
      refine tr_goto C (tgt := 7) dX4_fewestLost_55 (by decide) ?_
      refine tr_mask [true, true, true, true, false] rfl ?_
      exact IH7 (σ1, y1_7, y2_7, y3_7 + 1)
    · refine tr_aload_n C (i := 0) dX4_fewestLost_33 rfl rfl ?_
      refine tr_getR C (k := 5) (ci := 4) rfl rfl rfl inT4 rfl (by decide) w269 dX4_fewestLost_34 ?_
      refine tr_aload_n C (i := 0) dX4_fewestLost_37 rfl rfl ?_
      refine tr_getR C (k := 3) (ci := 4) rfl rfl rfl inT4 rfl (by decide) w267 dX4_fewestLost_38 ?_
      refine tr_cVIP C (av := [.ref (ad 40)]) (st := []) (kX0_differs l g cs ad 52 40 fl52 fl40 σ1) mwX0_differs w794 (fl_0 fl52) rfl ⟨rfl, rfl⟩ ⟨(Nat.le_of_ble_eq_true rfl), (Nat.le_of_ble_eq_true rfl)⟩ rfl rfl (Nat.le_of_ble_eq_true rfl) dX4_fewestLost_41 (fun r3 hr3 => ?_)
      refine tr_if_eq C (tgt := 52) dX4_fewestLost_44 (by decide) (fun q4 => ?_) (fun q4 => ?_)
      · refine tr_iinc C (i := 3) (d := 1) (lv' := [some (.ref (ad 0)), some (.int y1_7), some (.int y2_7), some (.int (y3_7 + 1)), some (.int r2)]) dX4_fewestLost_52 rfl (by decide) (by decide) rfl ?_
        refine tr_goto C (tgt := 7) dX4_fewestLost_55 (by decide) ?_
        refine tr_mask [true, true, true, true, false] rfl ?_
        exact IH7 (σ1, y1_7, y2_7, y3_7 + 1)
      · refine tr_iload C (i := 4) dX4_fewestLost_47 rfl ?_
        refine tr_istore_n C (i := 2) (lv' := [some (.ref (ad 0)), some (.int y1_7), some (.int r2), some (.int y3_7), some (.int r2)]) dX4_fewestLost_49 rfl (by decide) rfl ?_
        refine tr_iload_n C (i := 3) dX4_fewestLost_50 rfl rfl ?_
        refine tr_istore_n C (i := 1) (lv' := [some (.ref (ad 0)), some (.int y3_7), some (.int r2), some (.int y3_7), some (.int r2)]) dX4_fewestLost_51 rfl (by decide) rfl ?_
        refine tr_iinc C (i := 3) (d := 1) (lv' := [some (.ref (ad 0)), some (.int y3_7), some (.int r2), some (.int (y3_7 + 1)), some (.int r2)]) dX4_fewestLost_52 rfl (by decide) (by decide) rfl ?_
        refine tr_goto C (tgt := 7) dX4_fewestLost_55 (by decide) ?_
        refine tr_mask [true, true, true, true, false] rfl ?_
        exact IH7 (σ1, y3_7, r2, y3_7 + 1)
def fX4_best_b40 (a1 : Int32) (σ40 : Mem) (z0_40 : Int32) : Option (Int32 × Mem) :=
  if (a1 - a1 / 2 * 2) = 0 then (
    some (z0_40, σ40)
  ) else (
    if z0_40 = (-1) then (
      some (z0_40, σ40)
    ) else (
      bn1 (fX4_think z0_40 σ40) fun σ3 => (
        if a1 = 1 then (
          bn1 (fX0_together 52 σ3) fun r7 => (
            some (r7, σ3)
          )
        ) else (
          if a1 = 3 then (
            bn1 (fX0_spread 52 σ3) fun r5 => (
              some (r5, σ3)
            )
          ) else (
            bn1 (fX0_outs 52 σ3) fun r4 => (
              some (r4, σ3)
            )
          )
        )
      )
    )
  )
def fX4_best (a1 : Int32) (σ : Mem) : Option (Int32 × Mem) :=
  bn1 (fX4_within a1 0 5 σ) fun r1 => (
    if r1 = 0 then (
      some (-2, σ)
    ) else (
      if 2 ≤ a1 then (
        if 4 ≤ a1 then (
          bnd (fX4_fewestLost σ) fun r2 σ2 => (
            fX4_best_b40 a1 σ2 r2
          )
        ) else (
          bnd (fX4_leastSpread σ) fun r11 σ11 => (
            fX4_best_b40 a1 σ11 r11
          )
        )
      ) else (
        bnd (fX4_mostTogether σ) fun r13 σ13 => (
          fX4_best_b40 a1 σ13 r13
        )
      )
    )
  )
set_option maxHeartbeats 4000000 in
set_option maxRecDepth 100000 in
theorem kX4_best (l : Launch) (g : GG) (cs : CS) (ad : Nat → Nat) (a1 : Int32) (σ : Mem) : CtI l g cs ad (shC g) mX4_best (.code mX4_best cX4_best 3 (some .int)) { frames := 6, cells := 0, slots := 0, locals := 139 } [.ref (ad 0), .int a1] σ (fX4_best a1 σ) := by
  refine ctI_intro (own := "KinInTheHeap") (by decide +kernel) rfl [some (.ref (ad 0)), some (.int a1), none] (Nat.le_of_ble_eq_true rfl) rfl ?_
  intro p e s m args below meth c A C hr hlk
  refine tr_iload_n C (i := 1) dX4_best_0 rfl rfl ?_
  refine tr_iconst C (v := 0) dX4_best_1 (by decide) ?_
  refine tr_iconst C (v := 5) dX4_best_2 (by decide) ?_
  refine tr_cSIP C (av := [.int a1, .int 0, .int 5]) (st := []) (kX4_within l g cs ad a1 0 5 σ) mwX4_within w300 ⟨rfl, rfl⟩ ⟨(Nat.le_of_ble_eq_true rfl), (Nat.le_of_ble_eq_true rfl)⟩ rfl rfl (Nat.le_of_ble_eq_true rfl) dX4_best_3 (fun r1 hr1 => ?_)
  refine tr_if_ne C (tgt := 12) dX4_best_6 (by decide) (fun q15 => ?_) (fun q15 => ?_)
  · refine tr_bipush C (v := -2) dX4_best_9 (by decide) ?_
    exact tr_iret C hr hlk dX4_best_11
  · refine tr_iload_n C (i := 1) dX4_best_12 rfl rfl ?_
    refine tr_iconst C (v := 2) dX4_best_13 (by decide) ?_
    have B40 : ∀ (σ40 : Mem) (z0_40 : Int32), Tr p l e { frames := 6, cells := 0, slots := 0, locals := 139 } s m args below meth c g ad (shC g) A 3 (QI g ad (shC g) A below args s) (fX4_best_b40 a1 σ40 z0_40) σ40 40 [some (.ref (ad 0)), some (.int a1), none] [.int z0_40] := by
      intro σ40 z0_40
      refine tr_istore_n C (i := 2) (lv' := [some (.ref (ad 0)), some (.int a1), some (.int z0_40)]) dX4_best_40 rfl (by decide) rfl ?_
      refine tr_iload_n C (i := 1) dX4_best_41 rfl rfl ?_
      refine tr_iconst C (v := 2) dX4_best_42 (by decide) ?_
      refine tr_iremK C dX4_best_43 (by decide) ?_
      refine tr_if_eq C (tgt := 52) dX4_best_44 (by decide) (fun q10 => ?_) (fun q10 => ?_)
      · refine tr_iload_n C (i := 2) dX4_best_52 rfl rfl ?_
        exact tr_iret C hr hlk dX4_best_53
      · refine tr_iload_n C (i := 2) dX4_best_47 rfl rfl ?_
        refine tr_iconst C (v := -1) dX4_best_48 (by decide) ?_
        refine tr_icmp_ne C (tgt := 54) dX4_best_49 (by decide) (fun q9 => ?_) (fun q9 => ?_)
        · refine tr_iload_n C (i := 2) dX4_best_52 rfl rfl ?_
          exact tr_iret C hr hlk dX4_best_53
        · refine tr_aload_n C (i := 0) dX4_best_54 rfl rfl ?_
          refine tr_iload_n C (i := 2) dX4_best_55 rfl rfl ?_
          refine tr_cVV C (av := [.int z0_40]) (st := []) (kX4_think l g cs ad z0_40 σ40) mwX4_think w747 rfl rfl ⟨rfl, rfl⟩ ⟨(Nat.le_of_ble_eq_true rfl), (Nat.le_of_ble_eq_true rfl)⟩ rfl rfl (Nat.le_of_ble_eq_true rfl) dX4_best_56 (fun σ3 hr3 => ?_)
          refine tr_iload_n C (i := 1) dX4_best_59 rfl rfl ?_
          refine tr_iconst C (v := 1) dX4_best_60 (by decide) ?_
          refine tr_icmp_ne C (tgt := 74) dX4_best_61 (by decide) (fun q8 => ?_) (fun q8 => ?_)
          · refine tr_aload_n C (i := 0) dX4_best_64 rfl rfl ?_
            refine tr_getR C (k := 5) (ci := 4) rfl rfl rfl inT4 rfl (by decide) w269 dX4_best_65 ?_
            refine tr_cVIP C (av := []) (st := []) (kX0_together l g cs ad 52 fl52 σ3) mwX0_together w700 (fl_0 fl52) rfl ⟨rfl, rfl⟩ ⟨(Nat.le_of_ble_eq_true rfl), (Nat.le_of_ble_eq_true rfl)⟩ rfl rfl (Nat.le_of_ble_eq_true rfl) dX4_best_68 (fun r7 hr7 => ?_)
            refine tr_goto C (tgt := 96) dX4_best_71 (by decide) ?_
            exact tr_iret C hr hlk dX4_best_96
          · refine tr_iload_n C (i := 1) dX4_best_74 rfl rfl ?_
            refine tr_iconst C (v := 3) dX4_best_75 (by decide) ?_
            refine tr_icmp_ne C (tgt := 89) dX4_best_76 (by decide) (fun q6 => ?_) (fun q6 => ?_)
            · refine tr_aload_n C (i := 0) dX4_best_79 rfl rfl ?_
              refine tr_getR C (k := 5) (ci := 4) rfl rfl rfl inT4 rfl (by decide) w269 dX4_best_80 ?_
              refine tr_cVIP C (av := []) (st := []) (kX0_spread l g cs ad 52 fl52 σ3) mwX0_spread w718 (fl_0 fl52) rfl ⟨rfl, rfl⟩ ⟨(Nat.le_of_ble_eq_true rfl), (Nat.le_of_ble_eq_true rfl)⟩ rfl rfl (Nat.le_of_ble_eq_true rfl) dX4_best_83 (fun r5 hr5 => ?_)
              refine tr_goto C (tgt := 96) dX4_best_86 (by decide) ?_
              exact tr_iret C hr hlk dX4_best_96
            · refine tr_aload_n C (i := 0) dX4_best_89 rfl rfl ?_
              refine tr_getR C (k := 5) (ci := 4) rfl rfl rfl inT4 rfl (by decide) w269 dX4_best_90 ?_
              refine tr_cVIP C (av := []) (st := []) (kX0_outs l g cs ad 52 fl52 σ3) mwX0_outs w783 (fl_0 fl52) rfl ⟨rfl, rfl⟩ ⟨(Nat.le_of_ble_eq_true rfl), (Nat.le_of_ble_eq_true rfl)⟩ rfl rfl (Nat.le_of_ble_eq_true rfl) dX4_best_93 (fun r4 hr4 => ?_)
              exact tr_iret C hr hlk dX4_best_96
    refine tr_icmp_ge C (tgt := 24) dX4_best_14 (by decide) (fun q14 => ?_) (fun q14 => ?_)
    · refine tr_iload_n C (i := 1) dX4_best_24 rfl rfl ?_
      refine tr_iconst C (v := 4) dX4_best_25 (by decide) ?_
      refine tr_icmp_ge C (tgt := 36) dX4_best_26 (by decide) (fun q12 => ?_) (fun q12 => ?_)
      · refine tr_aload_n C (i := 0) dX4_best_36 rfl rfl ?_
        refine tr_cVI C (av := []) (st := []) (kX4_fewestLost l g cs ad σ) mwX4_fewestLost w779 rfl rfl ⟨rfl, rfl⟩ ⟨(Nat.le_of_ble_eq_true rfl), (Nat.le_of_ble_eq_true rfl)⟩ rfl rfl (Nat.le_of_ble_eq_true rfl) dX4_best_37 (fun r2 σ2 hr2 => ?_)
        exact B40 σ2 r2
      · refine tr_aload_n C (i := 0) dX4_best_29 rfl rfl ?_
        refine tr_cVI C (av := []) (st := []) (kX4_leastSpread l g cs ad σ) mwX4_leastSpread w775 rfl rfl ⟨rfl, rfl⟩ ⟨(Nat.le_of_ble_eq_true rfl), (Nat.le_of_ble_eq_true rfl)⟩ rfl rfl (Nat.le_of_ble_eq_true rfl) dX4_best_30 (fun r11 σ11 hr11 => ?_)
        refine tr_goto C (tgt := 40) dX4_best_33 (by decide) ?_
        exact B40 σ11 r11
    · refine tr_aload_n C (i := 0) dX4_best_17 rfl rfl ?_
      refine tr_cVI C (av := []) (st := []) (kX4_mostTogether l g cs ad σ) mwX4_mostTogether w771 rfl rfl ⟨rfl, rfl⟩ ⟨(Nat.le_of_ble_eq_true rfl), (Nat.le_of_ble_eq_true rfl)⟩ rfl rfl (Nat.le_of_ble_eq_true rfl) dX4_best_18 (fun r13 σ13 hr13 => ?_)
      refine tr_goto C (tgt := 40) dX4_best_21 (by decide) ?_
      exact B40 σ13 r13
def fX4_outWithCrack (a1 : Int32) (a2 : Int32) (σ : Mem) : Option (Int32 × Mem) :=
  bn1 (fX0_become 52 40 σ) fun σ1 => (
    if a2 = (-1) then (
      bnd (fX0_brush 52 a1 σ1) fun r2 σ2 => (
        bn1 (fX0_outs 52 σ2) fun r3 => (
          some (r3, σ2)
        )
      )
    ) else (
      stp (putL σ1 52 3 ((σ1.2 52 3) ||| (1 <<< (a2.toInt64 &&& 63)))) fun σw4 => (
        bnd (fX0_brush 52 a1 σw4) fun r5 σ5 => (
          bn1 (fX0_outs 52 σ5) fun r6 => (
            some (r6, σ5)
          )
        )
      )
    )
  )
set_option maxHeartbeats 4000000 in
set_option maxRecDepth 100000 in
theorem kX4_outWithCrack (l : Launch) (g : GG) (cs : CS) (ad : Nat → Nat) (a1 : Int32) (a2 : Int32) (σ : Mem) : CtI l g cs ad (shC g) mX4_outWithCrack (.code mX4_outWithCrack cX4_outWithCrack 3 (some .int)) { frames := 4, cells := 0, slots := 0, locals := 94 } [.ref (ad 0), .int a1, .int a2] σ (fX4_outWithCrack a1 a2 σ) := by
  refine ctI_intro (own := "KinInTheHeap") (by decide +kernel) rfl [some (.ref (ad 0)), some (.int a1), some (.int a2)] (Nat.le_of_ble_eq_true rfl) rfl ?_
  intro p e s m args below meth c A C hr hlk
  refine tr_aload_n C (i := 0) dX4_outWithCrack_0 rfl rfl ?_
  refine tr_getR C (k := 5) (ci := 4) rfl rfl rfl inT4 rfl (by decide) w269 dX4_outWithCrack_1 ?_
  refine tr_aload_n C (i := 0) dX4_outWithCrack_4 rfl rfl ?_
  refine tr_getR C (k := 3) (ci := 4) rfl rfl rfl inT4 rfl (by decide) w267 dX4_outWithCrack_5 ?_
  refine tr_cVV C (av := [.ref (ad 40)]) (st := []) (kX0_become l g cs ad 52 40 fl52 fl40 σ) mwX0_become w687 (fl_0 fl52) rfl ⟨rfl, rfl⟩ ⟨(Nat.le_of_ble_eq_true rfl), (Nat.le_of_ble_eq_true rfl)⟩ rfl rfl (Nat.le_of_ble_eq_true rfl) dX4_outWithCrack_8 (fun σ1 hr1 => ?_)
  refine tr_iload_n C (i := 2) dX4_outWithCrack_11 rfl rfl ?_
  refine tr_iconst C (v := -1) dX4_outWithCrack_12 (by decide) ?_
  refine tr_icmp_eq C (tgt := 31) dX4_outWithCrack_13 (by decide) (fun q7 => ?_) (fun q7 => ?_)
  · refine tr_aload_n C (i := 0) dX4_outWithCrack_31 rfl rfl ?_
    refine tr_getR C (k := 5) (ci := 4) rfl rfl rfl inT4 rfl (by decide) w269 dX4_outWithCrack_32 ?_
    refine tr_iload_n C (i := 1) dX4_outWithCrack_35 rfl rfl ?_
    refine tr_cVI C (av := [.int a1]) (st := []) (kX0_brush l g cs ad 52 a1 fl52 σ1) mwX0_brush w639 (fl_0 fl52) rfl ⟨rfl, rfl⟩ ⟨(Nat.le_of_ble_eq_true rfl), (Nat.le_of_ble_eq_true rfl)⟩ rfl rfl (Nat.le_of_ble_eq_true rfl) dX4_outWithCrack_36 (fun r2 σ2 hr2 => ?_)
    refine tr_pop C dX4_outWithCrack_39 rfl ?_
    refine tr_aload_n C (i := 0) dX4_outWithCrack_40 rfl rfl ?_
    refine tr_getR C (k := 5) (ci := 4) rfl rfl rfl inT4 rfl (by decide) w269 dX4_outWithCrack_41 ?_
    refine tr_cVIP C (av := []) (st := []) (kX0_outs l g cs ad 52 fl52 σ2) mwX0_outs w783 (fl_0 fl52) rfl ⟨rfl, rfl⟩ ⟨(Nat.le_of_ble_eq_true rfl), (Nat.le_of_ble_eq_true rfl)⟩ rfl rfl (Nat.le_of_ble_eq_true rfl) dX4_outWithCrack_44 (fun r3 hr3 => ?_)
    exact tr_iret C hr hlk dX4_outWithCrack_47
  · refine tr_aload_n C (i := 0) dX4_outWithCrack_16 rfl rfl ?_
    refine tr_getR C (k := 5) (ci := 4) rfl rfl rfl inT4 rfl (by decide) w269 dX4_outWithCrack_17 ?_
    refine tr_dup C dX4_outWithCrack_20 rfl ?_
    refine tr_getL C (k := 3) (ci := 0) (fl_0 fl52) rfl rfl inT0 rfl (by decide) w229 dX4_outWithCrack_21 ?_
    refine tr_lconst C (v := 1) dX4_outWithCrack_24 (by decide) ?_
    refine tr_iload_n C (i := 2) dX4_outWithCrack_25 rfl rfl ?_
    refine tr_lshl C dX4_outWithCrack_26 ?_
    refine tr_lor C dX4_outWithCrack_27 ?_
    refine tr_putL C (k := 3) (ci := 0) (σ' := putL σ1 52 3 ((σ1.2 52 3) ||| (1 <<< (a2.toInt64 &&& 63)))) (fl_0 fl52) rfl rfl inT0 rfl (by decide) tyX0 tyX0_ok nmX0 rfl rfl w229 dX4_outWithCrack_28 rfl ?_
    refine tr_stp (fun σw4 eσw4 => ?_)
    refine tr_aload_n C (i := 0) dX4_outWithCrack_31 rfl rfl ?_
    refine tr_getR C (k := 5) (ci := 4) rfl rfl rfl inT4 rfl (by decide) w269 dX4_outWithCrack_32 ?_
    refine tr_iload_n C (i := 1) dX4_outWithCrack_35 rfl rfl ?_
    refine tr_cVI C (av := [.int a1]) (st := []) (kX0_brush l g cs ad 52 a1 fl52 σw4) mwX0_brush w639 (fl_0 fl52) rfl ⟨rfl, rfl⟩ ⟨(Nat.le_of_ble_eq_true rfl), (Nat.le_of_ble_eq_true rfl)⟩ rfl rfl (Nat.le_of_ble_eq_true rfl) dX4_outWithCrack_36 (fun r5 σ5 hr5 => ?_)
    refine tr_pop C dX4_outWithCrack_39 rfl ?_
    refine tr_aload_n C (i := 0) dX4_outWithCrack_40 rfl rfl ?_
    refine tr_getR C (k := 5) (ci := 4) rfl rfl rfl inT4 rfl (by decide) w269 dX4_outWithCrack_41 ?_
    refine tr_cVIP C (av := []) (st := []) (kX0_outs l g cs ad 52 fl52 σ5) mwX0_outs w783 (fl_0 fl52) rfl ⟨rfl, rfl⟩ ⟨(Nat.le_of_ble_eq_true rfl), (Nat.le_of_ble_eq_true rfl)⟩ rfl rfl (Nat.le_of_ble_eq_true rfl) dX4_outWithCrack_44 (fun r6 hr6 => ?_)
    exact tr_iret C hr hlk dX4_outWithCrack_47
def fX4_saving_L12 (a1 : Int32) (ih12 : Mem × Int32 × Int32 × Int32 → Option (Int32 × Mem)) : Mem × Int32 × Int32 × Int32 → Option (Int32 × Mem) := fun v => match v with
  | (σ12, y2_12, y3_12, y4_12) =>
    if 36 ≤ y4_12 then (
      some (y2_12, σ12)
    ) else (
      bn1 (fX0_isCracked 40 y4_12 σ12) fun r2 => (
        if r2 = 0 then (
          bn1 (fX0_thoseIn 40 y4_12 σ12) fun r3 => (
            if r3 = 0 then (
              bnd (fX4_outWithCrack a1 y4_12 σ12) fun r4 σ4 => (
                if y3_12 ≤ r4 then (
                  ih12 (σ4, y2_12, y3_12, y4_12 + 1)
                ) else (
                  ih12 (σ4, y4_12, r4, y4_12 + 1)
                )
              )
            ) else (
              ih12 (σ12, y2_12, y3_12, y4_12 + 1)
            )
          )
        ) else (
          ih12 (σ12, y2_12, y3_12, y4_12 + 1)
        )
      )
    )
def fX4_saving (a1 : Int32) (σ : Mem) : Option (Int32 × Mem) :=
  bnd (fX4_outWithCrack a1 (-1) σ) fun r1 σ1 => (
    loopN (fX4_saving_L12 a1) 1000 (σ1, -1, r1, 0)
  )
set_option maxHeartbeats 4000000 in
set_option maxRecDepth 100000 in
theorem kX4_saving (l : Launch) (g : GG) (cs : CS) (ad : Nat → Nat) (a1 : Int32) (σ : Mem) : CtI l g cs ad (shC g) mX4_saving (.code mX4_saving cX4_saving 6 (some .int)) { frames := 5, cells := 0, slots := 0, locals := 116 } [.ref (ad 0), .int a1] σ (fX4_saving a1 σ) := by
  refine ctI_intro (own := "KinInTheHeap") (by decide +kernel) rfl [some (.ref (ad 0)), some (.int a1), none, none, none, none] (Nat.le_of_ble_eq_true rfl) rfl ?_
  intro p e s m args below meth c A C hr hlk
  refine tr_iconst C (v := -1) dX4_saving_0 (by decide) ?_
  refine tr_istore_n C (i := 2) (lv' := [some (.ref (ad 0)), some (.int a1), some (.int (-1)), none, none, none]) dX4_saving_1 rfl (by decide) rfl ?_
  refine tr_aload_n C (i := 0) dX4_saving_2 rfl rfl ?_
  refine tr_iload_n C (i := 1) dX4_saving_3 rfl rfl ?_
  refine tr_iconst C (v := -1) dX4_saving_4 (by decide) ?_
  refine tr_cVI C (av := [.int a1, .int (-1)]) (st := []) (kX4_outWithCrack l g cs ad a1 (-1) σ) mwX4_outWithCrack w806 rfl rfl ⟨rfl, rfl⟩ ⟨(Nat.le_of_ble_eq_true rfl), (Nat.le_of_ble_eq_true rfl)⟩ rfl rfl (Nat.le_of_ble_eq_true rfl) dX4_saving_5 (fun r1 σ1 hr1 => ?_)
  refine tr_istore_n C (i := 3) (lv' := [some (.ref (ad 0)), some (.int a1), some (.int (-1)), some (.int r1), none, none]) dX4_saving_8 rfl (by decide) rfl ?_
  refine tr_iconst C (v := 0) dX4_saving_9 (by decide) ?_
  refine tr_istore C (i := 4) (lv' := [some (.ref (ad 0)), some (.int a1), some (.int (-1)), some (.int r1), some (.int 0), none]) dX4_saving_10 (by decide) rfl ?_
  refine tr_loop (b := fX4_saving_L12 a1) (sg := fun v => v.1) (lw := fun v => [some (.ref (ad 0)), some (.int a1), some (.int v.2.1), some (.int v.2.2.1), some (.int v.2.2.2), none]) (sw := fun v => []) (fun ih12 IH12 v => ?_) 1000 (σ1, -1, r1, 0)
  obtain ⟨σ12, y2_12, y3_12, y4_12⟩ := v
  refine tr_st (σ' := σ12) (lv' := [some (.ref (ad 0)), some (.int a1), some (.int y2_12), some (.int y3_12), some (.int y4_12), none]) (st' := []) rfl rfl rfl ?_
  refine tr_iload C (i := 4) dX4_saving_12 rfl ?_
  refine tr_bipush C (v := 36) dX4_saving_14 (by decide) ?_
  refine tr_icmp_ge C (tgt := 70) dX4_saving_16 (by decide) (fun q8 => ?_) (fun q8 => ?_)
  · refine tr_iload_n C (i := 2) dX4_saving_70 rfl rfl ?_
    exact tr_iret C hr hlk dX4_saving_71
  · refine tr_aload_n C (i := 0) dX4_saving_19 rfl rfl ?_
    refine tr_getR C (k := 3) (ci := 4) rfl rfl rfl inT4 rfl (by decide) w267 dX4_saving_20 ?_
    refine tr_iload C (i := 4) dX4_saving_23 rfl ?_
    refine tr_cVIP C (av := [.int y4_12]) (st := []) (kX0_isCracked l g cs ad 40 y4_12 fl40 σ12) mwX0_isCracked w314 (fl_0 fl40) rfl ⟨rfl, rfl⟩ ⟨(Nat.le_of_ble_eq_true rfl), (Nat.le_of_ble_eq_true rfl)⟩ rfl rfl (Nat.le_of_ble_eq_true rfl) dX4_saving_25 (fun r2 hr2 => ?_)
    refine tr_if_ne C (tgt := 64) dX4_saving_28 (by decide) (fun q7 => ?_) (fun q7 => ?_)
    · refine tr_aload_n C (i := 0) dX4_saving_31 rfl rfl ?_
      refine tr_getR C (k := 3) (ci := 4) rfl rfl rfl inT4 rfl (by decide) w267 dX4_saving_32 ?_
      refine tr_iload C (i := 4) dX4_saving_35 rfl ?_
      refine tr_cVIP C (av := [.int y4_12]) (st := []) (kX0_thoseIn l g cs ad 40 y4_12 fl40 σ12) mwX0_thoseIn w351 (fl_0 fl40) rfl ⟨rfl, rfl⟩ ⟨(Nat.le_of_ble_eq_true rfl), (Nat.le_of_ble_eq_true rfl)⟩ rfl rfl (Nat.le_of_ble_eq_true rfl) dX4_saving_37 (fun r3 hr3 => ?_)
      refine tr_if_ne C (tgt := 64) dX4_saving_40 (by decide) (fun q6 => ?_) (fun q6 => ?_)
      · refine tr_aload_n C (i := 0) dX4_saving_43 rfl rfl ?_
        refine tr_iload_n C (i := 1) dX4_saving_44 rfl rfl ?_
        refine tr_iload C (i := 4) dX4_saving_45 rfl ?_
        refine tr_cVI C (av := [.int a1, .int y4_12]) (st := []) (kX4_outWithCrack l g cs ad a1 y4_12 σ12) mwX4_outWithCrack w806 rfl rfl ⟨rfl, rfl⟩ ⟨(Nat.le_of_ble_eq_true rfl), (Nat.le_of_ble_eq_true rfl)⟩ rfl rfl (Nat.le_of_ble_eq_true rfl) dX4_saving_47 (fun r4 σ4 hr4 => ?_)
        refine tr_istore C (i := 5) (lv' := [some (.ref (ad 0)), some (.int a1), some (.int y2_12), some (.int y3_12), some (.int y4_12), some (.int r4)]) dX4_saving_50 (by decide) rfl ?_
        refine tr_iload C (i := 5) dX4_saving_52 rfl ?_
        refine tr_iload_n C (i := 3) dX4_saving_54 rfl rfl ?_
        refine tr_icmp_ge C (tgt := 64) dX4_saving_55 (by decide) (fun q5 => ?_) (fun q5 => ?_)
        · refine tr_iinc C (i := 4) (d := 1) (lv' := [some (.ref (ad 0)), some (.int a1), some (.int y2_12), some (.int y3_12), some (.int (y4_12 + 1)), some (.int r4)]) dX4_saving_64 rfl (by decide) (by decide) rfl ?_
          refine tr_goto C (tgt := 12) dX4_saving_67 (by decide) ?_
          refine tr_mask [true, true, true, true, true, false] rfl ?_
          exact IH12 (σ4, y2_12, y3_12, y4_12 + 1)
        · refine tr_iload C (i := 5) dX4_saving_58 rfl ?_
          refine tr_istore_n C (i := 3) (lv' := [some (.ref (ad 0)), some (.int a1), some (.int y2_12), some (.int r4), some (.int y4_12), some (.int r4)]) dX4_saving_60 rfl (by decide) rfl ?_
          refine tr_iload C (i := 4) dX4_saving_61 rfl ?_
          refine tr_istore_n C (i := 2) (lv' := [some (.ref (ad 0)), some (.int a1), some (.int y4_12), some (.int r4), some (.int y4_12), some (.int r4)]) dX4_saving_63 rfl (by decide) rfl ?_
          refine tr_iinc C (i := 4) (d := 1) (lv' := [some (.ref (ad 0)), some (.int a1), some (.int y4_12), some (.int r4), some (.int (y4_12 + 1)), some (.int r4)]) dX4_saving_64 rfl (by decide) (by decide) rfl ?_
          refine tr_goto C (tgt := 12) dX4_saving_67 (by decide) ?_
          refine tr_mask [true, true, true, true, true, false] rfl ?_
          exact IH12 (σ4, y4_12, r4, y4_12 + 1)
      · refine tr_iinc C (i := 4) (d := 1) (lv' := [some (.ref (ad 0)), some (.int a1), some (.int y2_12), some (.int y3_12), some (.int (y4_12 + 1)), none]) dX4_saving_64 rfl (by decide) (by decide) rfl ?_
        refine tr_goto C (tgt := 12) dX4_saving_67 (by decide) ?_
        exact IH12 (σ12, y2_12, y3_12, y4_12 + 1)
    · refine tr_iinc C (i := 4) (d := 1) (lv' := [some (.ref (ad 0)), some (.int a1), some (.int y2_12), some (.int y3_12), some (.int (y4_12 + 1)), none]) dX4_saving_64 rfl (by decide) (by decide) rfl ?_
      refine tr_goto C (tgt := 12) dX4_saving_67 (by decide) ?_
      exact IH12 (σ12, y2_12, y3_12, y4_12 + 1)
def fX4_save (a1 : Int32) (a2 : Int32) (σ : Mem) : Option (Int32 × Mem) :=
  bn1 (fX4_isStroke a1 σ) fun r1 => (
    if r1 = 0 then (
      some (-2, σ)
    ) else (
      bn1 (fX4_within a2 0 1 σ) fun r2 => (
        if r2 = 0 then (
          some (-2, σ)
        ) else (
          bnd (fX4_saving a1 σ) fun r3 σ3 => (
            if a2 = 0 then (
              some (r3, σ3)
            ) else (
              bnd (fX4_outWithCrack a1 r3 σ3) fun r4 σ4 => (
                some (r4, σ4)
              )
            )
          )
        )
      )
    )
  )
set_option maxHeartbeats 4000000 in
set_option maxRecDepth 100000 in
theorem kX4_save (l : Launch) (g : GG) (cs : CS) (ad : Nat → Nat) (a1 : Int32) (a2 : Int32) (σ : Mem) : CtI l g cs ad (shC g) mX4_save (.code mX4_save cX4_save 4 (some .int)) { frames := 6, cells := 0, slots := 0, locals := 141 } [.ref (ad 0), .int a1, .int a2] σ (fX4_save a1 a2 σ) := by
  refine ctI_intro (own := "KinInTheHeap") (by decide +kernel) rfl [some (.ref (ad 0)), some (.int a1), some (.int a2), none] (Nat.le_of_ble_eq_true rfl) rfl ?_
  intro p e s m args below meth c A C hr hlk
  refine tr_iload_n C (i := 1) dX4_save_0 rfl rfl ?_
  refine tr_cSIP C (av := [.int a1]) (st := []) (kX4_isStroke l g cs ad a1 σ) mwX4_isStroke w636 ⟨rfl, rfl⟩ ⟨(Nat.le_of_ble_eq_true rfl), (Nat.le_of_ble_eq_true rfl)⟩ rfl rfl (Nat.le_of_ble_eq_true rfl) dX4_save_1 (fun r1 hr1 => ?_)
  refine tr_if_eq C (tgt := 16) dX4_save_4 (by decide) (fun q7 => ?_) (fun q7 => ?_)
  · refine tr_bipush C (v := -2) dX4_save_16 (by decide) ?_
    exact tr_iret C hr hlk dX4_save_18
  · refine tr_iload_n C (i := 2) dX4_save_7 rfl rfl ?_
    refine tr_iconst C (v := 0) dX4_save_8 (by decide) ?_
    refine tr_iconst C (v := 1) dX4_save_9 (by decide) ?_
    refine tr_cSIP C (av := [.int a2, .int 0, .int 1]) (st := []) (kX4_within l g cs ad a2 0 1 σ) mwX4_within w300 ⟨rfl, rfl⟩ ⟨(Nat.le_of_ble_eq_true rfl), (Nat.le_of_ble_eq_true rfl)⟩ rfl rfl (Nat.le_of_ble_eq_true rfl) dX4_save_10 (fun r2 hr2 => ?_)
    refine tr_if_ne C (tgt := 19) dX4_save_13 (by decide) (fun q6 => ?_) (fun q6 => ?_)
    · refine tr_bipush C (v := -2) dX4_save_16 (by decide) ?_
      exact tr_iret C hr hlk dX4_save_18
    · refine tr_aload_n C (i := 0) dX4_save_19 rfl rfl ?_
      refine tr_iload_n C (i := 1) dX4_save_20 rfl rfl ?_
      refine tr_cVI C (av := [.int a1]) (st := []) (kX4_saving l g cs ad a1 σ) mwX4_saving w802 rfl rfl ⟨rfl, rfl⟩ ⟨(Nat.le_of_ble_eq_true rfl), (Nat.le_of_ble_eq_true rfl)⟩ rfl rfl (Nat.le_of_ble_eq_true rfl) dX4_save_21 (fun r3 σ3 hr3 => ?_)
      refine tr_istore_n C (i := 3) (lv' := [some (.ref (ad 0)), some (.int a1), some (.int a2), some (.int r3)]) dX4_save_24 rfl (by decide) rfl ?_
      refine tr_iload_n C (i := 2) dX4_save_25 rfl rfl ?_
      refine tr_if_ne C (tgt := 33) dX4_save_26 (by decide) (fun q5 => ?_) (fun q5 => ?_)
      · refine tr_iload_n C (i := 3) dX4_save_29 rfl rfl ?_
        refine tr_goto C (tgt := 39) dX4_save_30 (by decide) ?_
        exact tr_iret C hr hlk dX4_save_39
      · refine tr_aload_n C (i := 0) dX4_save_33 rfl rfl ?_
        refine tr_iload_n C (i := 1) dX4_save_34 rfl rfl ?_
        refine tr_iload_n C (i := 3) dX4_save_35 rfl rfl ?_
        refine tr_cVI C (av := [.int a1, .int r3]) (st := []) (kX4_outWithCrack l g cs ad a1 r3 σ3) mwX4_outWithCrack w806 rfl rfl ⟨rfl, rfl⟩ ⟨(Nat.le_of_ble_eq_true rfl), (Nat.le_of_ble_eq_true rfl)⟩ rfl rfl (Nat.le_of_ble_eq_true rfl) dX4_save_36 (fun r4 σ4 hr4 => ?_)
        exact tr_iret C hr hlk dX4_save_39
def fX4_lasts_b67 (a1 : Int32) (a2 : Int32) (σ67 : Mem) : Option (Int32 × Mem) :=
  bn1 (fX0_isIn 52 a1 σ67) fun r4 => (
    if r4 = 0 then (
      some ((σ67.1 52 4) - (σ67.1 40 4), σ67)
    ) else (
      some (-1, σ67)
    )
  )
def fX4_lasts_L37 (a1 : Int32) (a2 : Int32) (ih37 : Mem × Int32 → Option (Int32 × Mem)) : Mem × Int32 → Option (Int32 × Mem) := fun v => match v with
  | (σ37, y3_37) =>
    if a2 ≤ y3_37 then (
      fX4_lasts_b67 a1 a2 σ37
    ) else (
      bn1 (fX0_isIn 52 a1 σ37) fun r6 => (
        if r6 = 0 then (
          fX4_lasts_b67 a1 a2 σ37
        ) else (
          bnd (fX0_drift 52 σ37) fun r7 σ7 => (
            ih37 (σ7, y3_37 + 1)
          )
        )
      )
    )
def fX4_lasts (a1 : Int32) (a2 : Int32) (σ : Mem) : Option (Int32 × Mem) :=
  bn1 (fX0_has 40 a1 σ) fun r1 => (
    if r1 = 0 then (
      some (-2, σ)
    ) else (
      bn1 (fX4_within a2 0 40 σ) fun r2 => (
        if r2 = 0 then (
          some (-2, σ)
        ) else (
          bn1 (fX0_become 52 40 σ) fun σ3 => (
            loopN (fX4_lasts_L37 a1 a2) 1000 (σ3, 0)
          )
        )
      )
    )
  )
set_option maxHeartbeats 4000000 in
set_option maxRecDepth 100000 in
theorem kX4_lasts (l : Launch) (g : GG) (cs : CS) (ad : Nat → Nat) (a1 : Int32) (a2 : Int32) (σ : Mem) : CtI l g cs ad (shC g) mX4_lasts (.code mX4_lasts cX4_lasts 4 (some .int)) { frames := 4, cells := 0, slots := 0, locals := 92 } [.ref (ad 0), .int a1, .int a2] σ (fX4_lasts a1 a2 σ) := by
  refine ctI_intro (own := "KinInTheHeap") (by decide +kernel) rfl [some (.ref (ad 0)), some (.int a1), some (.int a2), none] (Nat.le_of_ble_eq_true rfl) rfl ?_
  intro p e s m args below meth c A C hr hlk
  refine tr_aload_n C (i := 0) dX4_lasts_0 rfl rfl ?_
  refine tr_getR C (k := 3) (ci := 4) rfl rfl rfl inT4 rfl (by decide) w267 dX4_lasts_1 ?_
  refine tr_iload_n C (i := 1) dX4_lasts_4 rfl rfl ?_
  refine tr_cVIP C (av := [.int a1]) (st := []) (kX0_has l g cs ad 40 a1 fl40 σ) mwX0_has w323 (fl_0 fl40) rfl ⟨rfl, rfl⟩ ⟨(Nat.le_of_ble_eq_true rfl), (Nat.le_of_ble_eq_true rfl)⟩ rfl rfl (Nat.le_of_ble_eq_true rfl) dX4_lasts_5 (fun r1 hr1 => ?_)
  refine tr_if_eq C (tgt := 21) dX4_lasts_8 (by decide) (fun q11 => ?_) (fun q11 => ?_)
  · refine tr_bipush C (v := -2) dX4_lasts_21 (by decide) ?_
    exact tr_iret C hr hlk dX4_lasts_23
  · refine tr_iload_n C (i := 2) dX4_lasts_11 rfl rfl ?_
    refine tr_iconst C (v := 0) dX4_lasts_12 (by decide) ?_
    refine tr_bipush C (v := 40) dX4_lasts_13 (by decide) ?_
    refine tr_cSIP C (av := [.int a2, .int 0, .int 40]) (st := []) (kX4_within l g cs ad a2 0 40 σ) mwX4_within w300 ⟨rfl, rfl⟩ ⟨(Nat.le_of_ble_eq_true rfl), (Nat.le_of_ble_eq_true rfl)⟩ rfl rfl (Nat.le_of_ble_eq_true rfl) dX4_lasts_15 (fun r2 hr2 => ?_)
    refine tr_if_ne C (tgt := 24) dX4_lasts_18 (by decide) (fun q10 => ?_) (fun q10 => ?_)
    · refine tr_bipush C (v := -2) dX4_lasts_21 (by decide) ?_
      exact tr_iret C hr hlk dX4_lasts_23
    · refine tr_aload_n C (i := 0) dX4_lasts_24 rfl rfl ?_
      refine tr_getR C (k := 5) (ci := 4) rfl rfl rfl inT4 rfl (by decide) w269 dX4_lasts_25 ?_
      refine tr_aload_n C (i := 0) dX4_lasts_28 rfl rfl ?_
      refine tr_getR C (k := 3) (ci := 4) rfl rfl rfl inT4 rfl (by decide) w267 dX4_lasts_29 ?_
      refine tr_cVV C (av := [.ref (ad 40)]) (st := []) (kX0_become l g cs ad 52 40 fl52 fl40 σ) mwX0_become w687 (fl_0 fl52) rfl ⟨rfl, rfl⟩ ⟨(Nat.le_of_ble_eq_true rfl), (Nat.le_of_ble_eq_true rfl)⟩ rfl rfl (Nat.le_of_ble_eq_true rfl) dX4_lasts_32 (fun σ3 hr3 => ?_)
      refine tr_iconst C (v := 0) dX4_lasts_35 (by decide) ?_
      refine tr_istore_n C (i := 3) (lv' := [some (.ref (ad 0)), some (.int a1), some (.int a2), some (.int 0)]) dX4_lasts_36 rfl (by decide) rfl ?_
      refine tr_loop (b := fX4_lasts_L37 a1 a2) (sg := fun v => v.1) (lw := fun v => [some (.ref (ad 0)), some (.int a1), some (.int a2), some (.int v.2)]) (sw := fun v => []) (fun ih37 IH37 v => ?_) 1000 (σ3, 0)
      obtain ⟨σ37, y3_37⟩ := v
      refine tr_st (σ' := σ37) (lv' := [some (.ref (ad 0)), some (.int a1), some (.int a2), some (.int y3_37)]) (st' := []) rfl rfl rfl ?_
      refine tr_iload_n C (i := 3) dX4_lasts_37 rfl rfl ?_
      refine tr_iload_n C (i := 2) dX4_lasts_38 rfl rfl ?_
      have B67 : ∀ (σ67 : Mem), Tr p l e { frames := 4, cells := 0, slots := 0, locals := 92 } s m args below meth c g ad (shC g) A 4 (QI g ad (shC g) A below args s) (fX4_lasts_b67 a1 a2 σ67) σ67 67 [some (.ref (ad 0)), some (.int a1), none, none] [] := by
        intro σ67
        refine tr_aload_n C (i := 0) dX4_lasts_67 rfl rfl ?_
        refine tr_getR C (k := 5) (ci := 4) rfl rfl rfl inT4 rfl (by decide) w269 dX4_lasts_68 ?_
        refine tr_iload_n C (i := 1) dX4_lasts_71 rfl rfl ?_
        refine tr_cVIP C (av := [.int a1]) (st := []) (kX0_isIn l g cs ad 52 a1 fl52 σ67) mwX0_isIn w363 (fl_0 fl52) rfl ⟨rfl, rfl⟩ ⟨(Nat.le_of_ble_eq_true rfl), (Nat.le_of_ble_eq_true rfl)⟩ rfl rfl (Nat.le_of_ble_eq_true rfl) dX4_lasts_72 (fun r4 hr4 => ?_)
        refine tr_if_eq C (tgt := 82) dX4_lasts_75 (by decide) (fun q5 => ?_) (fun q5 => ?_)
        · refine tr_aload_n C (i := 0) dX4_lasts_82 rfl rfl ?_
          refine tr_getR C (k := 5) (ci := 4) rfl rfl rfl inT4 rfl (by decide) w269 dX4_lasts_83 ?_
          refine tr_getI C (k := 4) (ci := 0) (fl_0 fl52) rfl rfl inT0 rfl (by decide) w231 dX4_lasts_86 ?_
          refine tr_aload_n C (i := 0) dX4_lasts_89 rfl rfl ?_
          refine tr_getR C (k := 3) (ci := 4) rfl rfl rfl inT4 rfl (by decide) w267 dX4_lasts_90 ?_
          refine tr_getI C (k := 4) (ci := 0) (fl_0 fl40) rfl rfl inT0 rfl (by decide) w231 dX4_lasts_93 ?_
          refine tr_isub C dX4_lasts_96 ?_
          exact tr_iret C hr hlk dX4_lasts_97
        · refine tr_iconst C (v := -1) dX4_lasts_78 (by decide) ?_
          refine tr_goto C (tgt := 97) dX4_lasts_79 (by decide) ?_
          exact tr_iret C hr hlk dX4_lasts_97
      refine tr_icmp_ge C (tgt := 67) dX4_lasts_39 (by decide) (fun q9 => ?_) (fun q9 => ?_)
      · refine tr_mask [true, true, false, false] rfl ?_
        exact B67 σ37
      · refine tr_aload_n C (i := 0) dX4_lasts_42 rfl rfl ?_
        refine tr_getR C (k := 5) (ci := 4) rfl rfl rfl inT4 rfl (by decide) w269 dX4_lasts_43 ?_
        refine tr_iload_n C (i := 1) dX4_lasts_46 rfl rfl ?_
        refine tr_cVIP C (av := [.int a1]) (st := []) (kX0_isIn l g cs ad 52 a1 fl52 σ37) mwX0_isIn w363 (fl_0 fl52) rfl ⟨rfl, rfl⟩ ⟨(Nat.le_of_ble_eq_true rfl), (Nat.le_of_ble_eq_true rfl)⟩ rfl rfl (Nat.le_of_ble_eq_true rfl) dX4_lasts_47 (fun r6 hr6 => ?_)
        refine tr_if_eq C (tgt := 67) dX4_lasts_50 (by decide) (fun q8 => ?_) (fun q8 => ?_)
        · refine tr_mask [true, true, false, false] rfl ?_
          exact B67 σ37
        · refine tr_aload_n C (i := 0) dX4_lasts_53 rfl rfl ?_
          refine tr_getR C (k := 5) (ci := 4) rfl rfl rfl inT4 rfl (by decide) w269 dX4_lasts_54 ?_
          refine tr_cVI C (av := []) (st := []) (kX0_drift l g cs ad 52 fl52 σ37) mwX0_drift w664 (fl_0 fl52) rfl ⟨rfl, rfl⟩ ⟨(Nat.le_of_ble_eq_true rfl), (Nat.le_of_ble_eq_true rfl)⟩ rfl rfl (Nat.le_of_ble_eq_true rfl) dX4_lasts_57 (fun r7 σ7 hr7 => ?_)
          refine tr_pop C dX4_lasts_60 rfl ?_
          refine tr_iinc C (i := 3) (d := 1) (lv' := [some (.ref (ad 0)), some (.int a1), some (.int a2), some (.int (y3_37 + 1))]) dX4_lasts_61 rfl (by decide) (by decide) rfl ?_
          refine tr_goto C (tgt := 37) dX4_lasts_64 (by decide) ?_
          exact IH37 (σ7, y3_37 + 1)
def fX4_lowest_L30 (a1 : Int32) (a2 : Int32) (a3 : Int32) (σ : Mem) (ih30 : Int32 × Int32 → Option (Int64)) : Int32 × Int32 → Option (Int64) := fun v => match v with
  | (y3_30, y4_30) =>
    if y4_30 ≤ 1 then (
      some y3_30.toInt64
    ) else (
      gd (!(y4_30 == 0)) (
        if (a1 - a1 / y4_30 * y4_30) = 0 then (
          gd (!(y4_30 == 0)) (
            if (a2 - a2 / y4_30 * y4_30) = 0 then (
              gd (!(y4_30 == 0)) (
                some ((y3_30 / y4_30).toInt64)
              )
            ) else (
              ih30 (y3_30, y4_30 + (-1))
            )
          )
        ) else (
          ih30 (y3_30, y4_30 + (-1))
        )
      )
    )
def fX4_lowest (a1 : Int32) (a2 : Int32) (a3 : Int32) (σ : Mem) : Option (Int64) :=
  if a2 ≤ 0 then (
    some (-4611686018427387904)
  ) else (
    bn1 (fX4_within a3 0 1 σ) fun r1 => (
      if r1 = 0 then (
        some (-4611686018427387904)
      ) else (
        if a3 = 0 then (
          loopN (fX4_lowest_L30 a1 a2 a3 σ) 1000 (a1, a2)
        ) else (
          loopN (fX4_lowest_L30 a1 a2 a3 σ) 1000 (a2, a2)
        )
      )
    )
  )
set_option maxHeartbeats 4000000 in
set_option maxRecDepth 100000 in
theorem kX4_lowest (l : Launch) (g : GG) (cs : CS) (ad : Nat → Nat) (a1 : Int32) (a2 : Int32) (a3 : Int32) (σ : Mem) : CtL l g cs ad (shC g) mX4_lowest (.code mX4_lowest cX4_lowest 5 (some .long)) { frames := 1, cells := 0, slots := 0, locals := 22 } [.int a1, .int a2, .int a3] σ (pur (fX4_lowest a1 a2 a3 σ) σ) := by
  refine ctLP_intro (own := "KinInTheHeap") (by decide +kernel) rfl [some (.int a1), some (.int a2), some (.int a3), none, none] (Nat.le_of_ble_eq_true rfl) rfl ?_
  intro p e s m args below meth c A C hr hlk
  refine tr_iload_n C (i := 1) dX4_lowest_0 rfl rfl ?_
  refine tr_if_le C (tgt := 13) dX4_lowest_1 (by decide) (fun q16 => ?_) (fun q16 => ?_)
  · refine tr_ldc2 C (v := -4611686018427387904) w742 dX4_lowest_13 ?_
    exact tr_lretP C hr hlk dX4_lowest_16
  · refine tr_iload_n C (i := 2) dX4_lowest_4 rfl rfl ?_
    refine tr_iconst C (v := 0) dX4_lowest_5 (by decide) ?_
    refine tr_iconst C (v := 1) dX4_lowest_6 (by decide) ?_
    refine tr_cSIP C (av := [.int a3, .int 0, .int 1]) (st := []) (kX4_within l g cs ad a3 0 1 σ) mwX4_within w300 ⟨rfl, rfl⟩ ⟨(Nat.le_of_ble_eq_true rfl), (Nat.le_of_ble_eq_true rfl)⟩ rfl rfl (Nat.le_of_ble_eq_true rfl) dX4_lowest_7 (fun r1 hr1 => ?_)
    refine tr_if_ne C (tgt := 17) dX4_lowest_10 (by decide) (fun q15 => ?_) (fun q15 => ?_)
    · refine tr_ldc2 C (v := -4611686018427387904) w742 dX4_lowest_13 ?_
      exact tr_lretP C hr hlk dX4_lowest_16
    · refine tr_iload_n C (i := 2) dX4_lowest_17 rfl rfl ?_
      refine tr_if_ne C (tgt := 25) dX4_lowest_18 (by decide) (fun q14 => ?_) (fun q14 => ?_)
      · refine tr_iload_n C (i := 0) dX4_lowest_21 rfl rfl ?_
        refine tr_goto C (tgt := 26) dX4_lowest_22 (by decide) ?_
        refine tr_istore_n C (i := 3) (lv' := [some (.int a1), some (.int a2), some (.int a3), some (.int a1), none]) dX4_lowest_26 rfl (by decide) rfl ?_
        refine tr_iload_n C (i := 1) dX4_lowest_27 rfl rfl ?_
        refine tr_istore C (i := 4) (lv' := [some (.int a1), some (.int a2), some (.int a3), some (.int a1), some (.int a2)]) dX4_lowest_28 (by decide) rfl ?_
        refine tr_mask [true, true, false, true, true] rfl ?_
        refine tr_loop (b := fX4_lowest_L30 a1 a2 a3 σ) (sg := fun v => σ) (lw := fun v => [some (.int a1), some (.int a2), none, some (.int v.1), some (.int v.2)]) (sw := fun v => []) (fun ih30 IH30 v => ?_) 1000 (a1, a2)
        obtain ⟨y3_30, y4_30⟩ := v
        refine tr_st (σ' := σ) (lv' := [some (.int a1), some (.int a2), none, some (.int y3_30), some (.int y4_30)]) (st' := []) rfl rfl rfl ?_
        refine tr_iload C (i := 4) dX4_lowest_30 rfl ?_
        refine tr_iconst C (v := 1) dX4_lowest_32 (by decide) ?_
        refine tr_icmp_le C (tgt := 62) dX4_lowest_33 (by decide) (fun q13 => ?_) (fun q13 => ?_)
        · refine tr_iload_n C (i := 3) dX4_lowest_62 rfl rfl ?_
          refine tr_i2l C dX4_lowest_63 ?_
          exact tr_lretP C hr hlk dX4_lowest_64
        · refine tr_iload_n C (i := 0) dX4_lowest_36 rfl rfl ?_
          refine tr_iload C (i := 4) dX4_lowest_37 rfl ?_
          refine tr_irem C dX4_lowest_39 (fun h12 => ?_)
          refine tr_if_ne C (tgt := 56) dX4_lowest_40 (by decide) (fun q11 => ?_) (fun q11 => ?_)
          · refine tr_iload_n C (i := 1) dX4_lowest_43 rfl rfl ?_
            refine tr_iload C (i := 4) dX4_lowest_44 rfl ?_
            refine tr_irem C dX4_lowest_46 (fun h10 => ?_)
            refine tr_if_ne C (tgt := 56) dX4_lowest_47 (by decide) (fun q9 => ?_) (fun q9 => ?_)
            · refine tr_iload_n C (i := 3) dX4_lowest_50 rfl rfl ?_
              refine tr_iload C (i := 4) dX4_lowest_51 rfl ?_
              refine tr_idiv C dX4_lowest_53 (fun h8 => ?_)
              refine tr_i2l C dX4_lowest_54 ?_
              exact tr_lretP C hr hlk dX4_lowest_55
            · refine tr_iinc C (i := 4) (d := (-1)) (lv' := [some (.int a1), some (.int a2), none, some (.int y3_30), some (.int (y4_30 + (-1)))]) dX4_lowest_56 rfl (by decide) (by decide) rfl ?_
              refine tr_goto C (tgt := 30) dX4_lowest_59 (by decide) ?_
              exact IH30 (y3_30, y4_30 + (-1))
          · refine tr_iinc C (i := 4) (d := (-1)) (lv' := [some (.int a1), some (.int a2), none, some (.int y3_30), some (.int (y4_30 + (-1)))]) dX4_lowest_56 rfl (by decide) (by decide) rfl ?_
            refine tr_goto C (tgt := 30) dX4_lowest_59 (by decide) ?_
            exact IH30 (y3_30, y4_30 + (-1))
      · refine tr_iload_n C (i := 1) dX4_lowest_25 rfl rfl ?_
        refine tr_istore_n C (i := 3) (lv' := [some (.int a1), some (.int a2), some (.int a3), some (.int a2), none]) dX4_lowest_26 rfl (by decide) rfl ?_
        refine tr_iload_n C (i := 1) dX4_lowest_27 rfl rfl ?_
        refine tr_istore C (i := 4) (lv' := [some (.int a1), some (.int a2), some (.int a3), some (.int a2), some (.int a2)]) dX4_lowest_28 (by decide) rfl ?_
        refine tr_mask [true, true, false, true, true] rfl ?_
        refine tr_loop (b := fX4_lowest_L30 a1 a2 a3 σ) (sg := fun v => σ) (lw := fun v => [some (.int a1), some (.int a2), none, some (.int v.1), some (.int v.2)]) (sw := fun v => []) (fun ih30 IH30 v => ?_) 1000 (a2, a2)
        obtain ⟨y3_30, y4_30⟩ := v
        refine tr_st (σ' := σ) (lv' := [some (.int a1), some (.int a2), none, some (.int y3_30), some (.int y4_30)]) (st' := []) rfl rfl rfl ?_
        refine tr_iload C (i := 4) dX4_lowest_30 rfl ?_
        refine tr_iconst C (v := 1) dX4_lowest_32 (by decide) ?_
        refine tr_icmp_le C (tgt := 62) dX4_lowest_33 (by decide) (fun q7 => ?_) (fun q7 => ?_)
        · refine tr_iload_n C (i := 3) dX4_lowest_62 rfl rfl ?_
          refine tr_i2l C dX4_lowest_63 ?_
          exact tr_lretP C hr hlk dX4_lowest_64
        · refine tr_iload_n C (i := 0) dX4_lowest_36 rfl rfl ?_
          refine tr_iload C (i := 4) dX4_lowest_37 rfl ?_
          refine tr_irem C dX4_lowest_39 (fun h6 => ?_)
          refine tr_if_ne C (tgt := 56) dX4_lowest_40 (by decide) (fun q5 => ?_) (fun q5 => ?_)
          · refine tr_iload_n C (i := 1) dX4_lowest_43 rfl rfl ?_
            refine tr_iload C (i := 4) dX4_lowest_44 rfl ?_
            refine tr_irem C dX4_lowest_46 (fun h4 => ?_)
            refine tr_if_ne C (tgt := 56) dX4_lowest_47 (by decide) (fun q3 => ?_) (fun q3 => ?_)
            · refine tr_iload_n C (i := 3) dX4_lowest_50 rfl rfl ?_
              refine tr_iload C (i := 4) dX4_lowest_51 rfl ?_
              refine tr_idiv C dX4_lowest_53 (fun h2 => ?_)
              refine tr_i2l C dX4_lowest_54 ?_
              exact tr_lretP C hr hlk dX4_lowest_55
            · refine tr_iinc C (i := 4) (d := (-1)) (lv' := [some (.int a1), some (.int a2), none, some (.int y3_30), some (.int (y4_30 + (-1)))]) dX4_lowest_56 rfl (by decide) (by decide) rfl ?_
              refine tr_goto C (tgt := 30) dX4_lowest_59 (by decide) ?_
              exact IH30 (y3_30, y4_30 + (-1))
          · refine tr_iinc C (i := 4) (d := (-1)) (lv' := [some (.int a1), some (.int a2), none, some (.int y3_30), some (.int (y4_30 + (-1)))]) dX4_lowest_56 rfl (by decide) (by decide) rfl ?_
            refine tr_goto C (tgt := 30) dX4_lowest_59 (by decide) ?_
            exact IH30 (y3_30, y4_30 + (-1))
def fX4_share (a1 : Int32) (σ : Mem) : Option (Int64) :=
  bn1 (fX0_outs 40 σ) fun r1 => (
    bn1 (fX4_lowest r1 (σ.1 40 7) a1 σ) fun r2 => (
      some r2
    )
  )
set_option maxHeartbeats 4000000 in
set_option maxRecDepth 100000 in
theorem kX4_share (l : Launch) (g : GG) (cs : CS) (ad : Nat → Nat) (a1 : Int32) (σ : Mem) : CtL l g cs ad (shC g) mX4_share (.code mX4_share cX4_share 2 (some .long)) { frames := 2, cells := 0, slots := 0, locals := 46 } [.ref (ad 0), .int a1] σ (pur (fX4_share a1 σ) σ) := by
  refine ctLP_intro (own := "KinInTheHeap") (by decide +kernel) rfl [some (.ref (ad 0)), some (.int a1)] (Nat.le_of_ble_eq_true rfl) rfl ?_
  intro p e s m args below meth c A C hr hlk
  refine tr_aload_n C (i := 0) dX4_share_0 rfl rfl ?_
  refine tr_getR C (k := 3) (ci := 4) rfl rfl rfl inT4 rfl (by decide) w267 dX4_share_1 ?_
  refine tr_cVIP C (av := []) (st := []) (kX0_outs l g cs ad 40 fl40 σ) mwX0_outs w783 (fl_0 fl40) rfl ⟨rfl, rfl⟩ ⟨(Nat.le_of_ble_eq_true rfl), (Nat.le_of_ble_eq_true rfl)⟩ rfl rfl (Nat.le_of_ble_eq_true rfl) dX4_share_4 (fun r1 hr1 => ?_)
  refine tr_aload_n C (i := 0) dX4_share_7 rfl rfl ?_
  refine tr_getR C (k := 3) (ci := 4) rfl rfl rfl inT4 rfl (by decide) w267 dX4_share_8 ?_
  refine tr_getI C (k := 7) (ci := 0) (fl_0 fl40) rfl rfl inT0 rfl (by decide) w237 dX4_share_11 ?_
  refine tr_iload_n C (i := 1) dX4_share_14 rfl rfl ?_
  refine tr_cSLP C (av := [.int r1, .int (σ.1 40 7), .int a1]) (st := []) (kX4_lowest l g cs ad r1 (σ.1 40 7) a1 σ) mwX4_lowest w818 ⟨rfl, rfl⟩ ⟨(Nat.le_of_ble_eq_true rfl), (Nat.le_of_ble_eq_true rfl)⟩ rfl rfl (Nat.le_of_ble_eq_true rfl) dX4_share_15 (fun r2 hr2 => ?_)
  exact tr_lretP C hr hlk dX4_share_18
def fX4_tellingRefused (b1 : Nat) (σ : Mem) : Option (Int32) :=
  bn1 (fX2_isMissing b1 σ) fun r1 => (
    if r1 = 0 then (
      if (σ.1 b1 2) ≤ 10 then (
        some 0
      ) else (
        some (-2)
      )
    ) else (
      some (-11)
    )
  )
set_option maxHeartbeats 4000000 in
set_option maxRecDepth 100000 in
theorem kX4_tellingRefused (l : Launch) (g : GG) (cs : CS) (ad : Nat → Nat) (b1 : Nat) (hb1 : isSt b1) (σ : Mem) : CtI l g cs ad (shC g) mX4_tellingRefused (.code mX4_tellingRefused cX4_tellingRefused 1 (some .int)) { frames := 1, cells := 0, slots := 0, locals := 20 } [.ref (ad b1)] σ (pur (fX4_tellingRefused b1 σ) σ) := by
  refine ctIP_intro (own := "KinInTheHeap") (by decide +kernel) rfl [some (.ref (ad b1))] (Nat.le_of_ble_eq_true rfl) rfl ?_
  intro p e s m args below meth c A C hr hlk
  refine tr_aload_n C (i := 0) dX4_tellingRefused_0 rfl rfl ?_
  refine tr_cVIP C (av := []) (st := []) (kX2_isMissing l g cs ad b1 hb1 σ) mwX2_isMissing w683 (st_0 hb1) rfl ⟨rfl, rfl⟩ ⟨(Nat.le_of_ble_eq_true rfl), (Nat.le_of_ble_eq_true rfl)⟩ rfl rfl (Nat.le_of_ble_eq_true rfl) dX4_tellingRefused_1 (fun r1 hr1 => ?_)
  refine tr_if_eq C (tgt := 10) dX4_tellingRefused_4 (by decide) (fun q3 => ?_) (fun q3 => ?_)
  · refine tr_aload_n C (i := 0) dX4_tellingRefused_10 rfl rfl ?_
    refine tr_getI C (k := 2) (ci := 2) (st_0 hb1) rfl rfl inT2 rfl (by decide) w192 dX4_tellingRefused_11 ?_
    refine tr_bipush C (v := 10) dX4_tellingRefused_14 (by decide) ?_
    refine tr_icmp_le C (tgt := 24) dX4_tellingRefused_16 (by decide) (fun q2 => ?_) (fun q2 => ?_)
    · refine tr_iconst C (v := 0) dX4_tellingRefused_24 (by decide) ?_
      exact tr_iretP C hr hlk dX4_tellingRefused_25
    · refine tr_bipush C (v := -2) dX4_tellingRefused_19 (by decide) ?_
      refine tr_goto C (tgt := 25) dX4_tellingRefused_21 (by decide) ?_
      exact tr_iretP C hr hlk dX4_tellingRefused_25
  · refine tr_bipush C (v := -11) dX4_tellingRefused_7 (by decide) ?_
    exact tr_iretP C hr hlk dX4_tellingRefused_9
def fX4_firstOtherwise_L2 (b1 : Nat) (a2 : Int32) (ih2 : Mem × Int32 → Option (Int32 × Mem)) : Mem × Int32 → Option (Int32 × Mem) := fun v => match v with
  | (σ2, y3_2) =>
    if (σ2.1 b1 2) ≤ y3_2 then (
      some (-1, σ2)
    ) else (
      stp (putI σ2 52 5 y3_2) fun σw1 => (
        bnd (fX0_far 52 a2 σw1) fun r2 σ2 => (
          gd (inB y3_2 40) (
            if r2 = (rd σ2 (b1 + 1) y3_2) then (
              ih2 (σ2, y3_2 + 1)
            ) else (
              some (y3_2, σ2)
            )
          )
        )
      )
    )
def fX4_firstOtherwise (b1 : Nat) (a2 : Int32) (σ : Mem) : Option (Int32 × Mem) :=
  loopN (fX4_firstOtherwise_L2 b1 a2) 1000 (σ, 0)
set_option maxHeartbeats 4000000 in
set_option maxRecDepth 100000 in
theorem kX4_firstOtherwise (l : Launch) (g : GG) (cs : CS) (ad : Nat → Nat) (b1 : Nat) (a2 : Int32) (hb1 : isSt b1) (σ : Mem) : CtI l g cs ad (shC g) mX4_firstOtherwise (.code mX4_firstOtherwise cX4_firstOtherwise 4 (some .int)) { frames := 3, cells := 0, slots := 0, locals := 71 } [.ref (ad 0), .ref (ad b1), .int a2] σ (fX4_firstOtherwise b1 a2 σ) := by
  refine ctI_intro (own := "KinInTheHeap") (by decide +kernel) rfl [some (.ref (ad 0)), some (.ref (ad b1)), some (.int a2), none] (Nat.le_of_ble_eq_true rfl) rfl ?_
  intro p e s m args below meth c A C hr hlk
  refine tr_iconst C (v := 0) dX4_firstOtherwise_0 (by decide) ?_
  refine tr_istore_n C (i := 3) (lv' := [some (.ref (ad 0)), some (.ref (ad b1)), some (.int a2), some (.int 0)]) dX4_firstOtherwise_1 rfl (by decide) rfl ?_
  refine tr_loop (b := fX4_firstOtherwise_L2 b1 a2) (sg := fun v => v.1) (lw := fun v => [some (.ref (ad 0)), some (.ref (ad b1)), some (.int a2), some (.int v.2)]) (sw := fun v => []) (fun ih2 IH2 v => ?_) 1000 (σ, 0)
  obtain ⟨σ2, y3_2⟩ := v
  refine tr_st (σ' := σ2) (lv' := [some (.ref (ad 0)), some (.ref (ad b1)), some (.int a2), some (.int y3_2)]) (st' := []) rfl rfl rfl ?_
  refine tr_iload_n C (i := 3) dX4_firstOtherwise_2 rfl rfl ?_
  refine tr_aload_n C (i := 1) dX4_firstOtherwise_3 rfl rfl ?_
  refine tr_getI C (k := 2) (ci := 2) (st_0 hb1) rfl rfl inT2 rfl (by decide) w192 dX4_firstOtherwise_4 ?_
  refine tr_icmp_ge C (tgt := 43) dX4_firstOtherwise_7 (by decide) (fun q5 => ?_) (fun q5 => ?_)
  · refine tr_iconst C (v := -1) dX4_firstOtherwise_43 (by decide) ?_
    exact tr_iret C hr hlk dX4_firstOtherwise_44
  · refine tr_aload_n C (i := 0) dX4_firstOtherwise_10 rfl rfl ?_
    refine tr_getR C (k := 5) (ci := 4) rfl rfl rfl inT4 rfl (by decide) w269 dX4_firstOtherwise_11 ?_
    refine tr_iload_n C (i := 3) dX4_firstOtherwise_14 rfl rfl ?_
    refine tr_putI C (k := 5) (ci := 0) (σ' := putI σ2 52 5 y3_2) (fl_0 fl52) rfl rfl inT0 rfl (by decide) tyX0 tyX0_ok nmX0 rfl rfl w233 dX4_firstOtherwise_15 rfl ?_
    refine tr_stp (fun σw1 eσw1 => ?_)
    refine tr_aload_n C (i := 0) dX4_firstOtherwise_18 rfl rfl ?_
    refine tr_getR C (k := 5) (ci := 4) rfl rfl rfl inT4 rfl (by decide) w269 dX4_firstOtherwise_19 ?_
    refine tr_iload_n C (i := 2) dX4_firstOtherwise_22 rfl rfl ?_
    refine tr_cVI C (av := [.int a2]) (st := []) (kX0_far l g cs ad 52 a2 fl52 σw1) mwX0_far w368 (fl_0 fl52) rfl ⟨rfl, rfl⟩ ⟨(Nat.le_of_ble_eq_true rfl), (Nat.le_of_ble_eq_true rfl)⟩ rfl rfl (Nat.le_of_ble_eq_true rfl) dX4_firstOtherwise_23 (fun r2 σ2 hr2 => ?_)
    refine tr_aload_n C (i := 1) dX4_firstOtherwise_26 rfl rfl ?_
    refine tr_getR C (k := 0) (ci := 2) (st_0 hb1) rfl rfl inT2 rfl (by decide) w188 dX4_firstOtherwise_27 ?_
    refine tr_iload_n C (i := 3) dX4_firstOtherwise_30 rfl rfl ?_
    refine tr_iald C (n := 40) (st_1 hb1) dX4_firstOtherwise_31 (fun h4 => ?_)
    refine tr_icmp_eq C (tgt := 37) dX4_firstOtherwise_32 (by decide) (fun q3 => ?_) (fun q3 => ?_)
    · refine tr_iinc C (i := 3) (d := 1) (lv' := [some (.ref (ad 0)), some (.ref (ad b1)), some (.int a2), some (.int (y3_2 + 1))]) dX4_firstOtherwise_37 rfl (by decide) (by decide) rfl ?_
      refine tr_goto C (tgt := 2) dX4_firstOtherwise_40 (by decide) ?_
      exact IH2 (σ2, y3_2 + 1)
    · refine tr_iload_n C (i := 3) dX4_firstOtherwise_35 rfl rfl ?_
      exact tr_iret C hr hlk dX4_firstOtherwise_36
def fX4_kindsTold_L5 (b1 : Nat) (a2 : Int32) (ih5 : Mem × Int32 × Int32 → Option (Int32 × Mem)) : Mem × Int32 × Int32 → Option (Int32 × Mem) := fun v => match v with
  | (σ5, y3_5, y4_5) =>
    if 6 ≤ y4_5 then (
      some (y3_5, σ5)
    ) else (
      gd (inB a2 8) (stp (wr σ5 53 a2 y4_5) fun σw1 => (
        bnd (fX4_firstOtherwise b1 a2 σw1) fun r2 σ2 => (
          if r2 = (-1) then (
            ih5 (σ2, y3_5 ||| (1 <<< (y4_5 &&& 31)), y4_5 + 1)
          ) else (
            ih5 (σ2, y3_5, y4_5 + 1)
          )
        )
      ))
    )
def fX4_kindsTold (b1 : Nat) (a2 : Int32) (σ : Mem) : Option (Int32 × Mem) :=
  loopN (fX4_kindsTold_L5 b1 a2) 1000 (σ, 0, 0)
set_option maxHeartbeats 4000000 in
set_option maxRecDepth 100000 in
theorem kX4_kindsTold (l : Launch) (g : GG) (cs : CS) (ad : Nat → Nat) (b1 : Nat) (a2 : Int32) (hb1 : isSt b1) (σ : Mem) : CtI l g cs ad (shC g) mX4_kindsTold (.code mX4_kindsTold cX4_kindsTold 5 (some .int)) { frames := 4, cells := 0, slots := 0, locals := 94 } [.ref (ad 0), .ref (ad b1), .int a2] σ (fX4_kindsTold b1 a2 σ) := by
  refine ctI_intro (own := "KinInTheHeap") (by decide +kernel) rfl [some (.ref (ad 0)), some (.ref (ad b1)), some (.int a2), none, none] (Nat.le_of_ble_eq_true rfl) rfl ?_
  intro p e s m args below meth c A C hr hlk
  refine tr_iconst C (v := 0) dX4_kindsTold_0 (by decide) ?_
  refine tr_istore_n C (i := 3) (lv' := [some (.ref (ad 0)), some (.ref (ad b1)), some (.int a2), some (.int 0), none]) dX4_kindsTold_1 rfl (by decide) rfl ?_
  refine tr_iconst C (v := 0) dX4_kindsTold_2 (by decide) ?_
  refine tr_istore C (i := 4) (lv' := [some (.ref (ad 0)), some (.ref (ad b1)), some (.int a2), some (.int 0), some (.int 0)]) dX4_kindsTold_3 (by decide) rfl ?_
  refine tr_loop (b := fX4_kindsTold_L5 b1 a2) (sg := fun v => v.1) (lw := fun v => [some (.ref (ad 0)), some (.ref (ad b1)), some (.int a2), some (.int v.2.1), some (.int v.2.2)]) (sw := fun v => []) (fun ih5 IH5 v => ?_) 1000 (σ, 0, 0)
  obtain ⟨σ5, y3_5, y4_5⟩ := v
  refine tr_st (σ' := σ5) (lv' := [some (.ref (ad 0)), some (.ref (ad b1)), some (.int a2), some (.int y3_5), some (.int y4_5)]) (st' := []) rfl rfl rfl ?_
  refine tr_iload C (i := 4) dX4_kindsTold_5 rfl ?_
  refine tr_bipush C (v := 6) dX4_kindsTold_7 (by decide) ?_
  refine tr_icmp_ge C (tgt := 46) dX4_kindsTold_9 (by decide) (fun q5 => ?_) (fun q5 => ?_)
  · refine tr_iload_n C (i := 3) dX4_kindsTold_46 rfl rfl ?_
    exact tr_iret C hr hlk dX4_kindsTold_47
  · refine tr_aload_n C (i := 0) dX4_kindsTold_12 rfl rfl ?_
    refine tr_getR C (k := 5) (ci := 4) rfl rfl rfl inT4 rfl (by decide) w269 dX4_kindsTold_13 ?_
    refine tr_getR C (k := 0) (ci := 0) (fl_0 fl52) rfl rfl inT0 rfl (by decide) w223 dX4_kindsTold_16 ?_
    refine tr_iload_n C (i := 2) dX4_kindsTold_19 rfl rfl ?_
    refine tr_iload C (i := 4) dX4_kindsTold_20 rfl ?_
    refine tr_iast C (n := 8) (σ' := wr σ5 53 a2 y4_5) (fl_1 fl52) dX4_kindsTold_22 rfl (fun h4 => ?_)
    refine tr_stp (fun σw1 eσw1 => ?_)
    refine tr_aload_n C (i := 0) dX4_kindsTold_23 rfl rfl ?_
    refine tr_aload_n C (i := 1) dX4_kindsTold_24 rfl rfl ?_
    refine tr_iload_n C (i := 2) dX4_kindsTold_25 rfl rfl ?_
    refine tr_cVI C (av := [.ref (ad b1), .int a2]) (st := []) (kX4_firstOtherwise l g cs ad b1 a2 hb1 σw1) mwX4_firstOtherwise w832 rfl rfl ⟨rfl, rfl⟩ ⟨(Nat.le_of_ble_eq_true rfl), (Nat.le_of_ble_eq_true rfl)⟩ rfl rfl (Nat.le_of_ble_eq_true rfl) dX4_kindsTold_26 (fun r2 σ2 hr2 => ?_)
    refine tr_iconst C (v := -1) dX4_kindsTold_29 (by decide) ?_
    refine tr_icmp_ne C (tgt := 40) dX4_kindsTold_30 (by decide) (fun q3 => ?_) (fun q3 => ?_)
    · refine tr_iload_n C (i := 3) dX4_kindsTold_33 rfl rfl ?_
      refine tr_iconst C (v := 1) dX4_kindsTold_34 (by decide) ?_
      refine tr_iload C (i := 4) dX4_kindsTold_35 rfl ?_
      refine tr_ishl C dX4_kindsTold_37 ?_
      refine tr_ior C dX4_kindsTold_38 ?_
      refine tr_istore_n C (i := 3) (lv' := [some (.ref (ad 0)), some (.ref (ad b1)), some (.int a2), some (.int (y3_5 ||| (1 <<< (y4_5 &&& 31)))), some (.int y4_5)]) dX4_kindsTold_39 rfl (by decide) rfl ?_
      refine tr_iinc C (i := 4) (d := 1) (lv' := [some (.ref (ad 0)), some (.ref (ad b1)), some (.int a2), some (.int (y3_5 ||| (1 <<< (y4_5 &&& 31)))), some (.int (y4_5 + 1))]) dX4_kindsTold_40 rfl (by decide) (by decide) rfl ?_
      refine tr_goto C (tgt := 5) dX4_kindsTold_43 (by decide) ?_
      exact IH5 (σ2, y3_5 ||| (1 <<< (y4_5 &&& 31)), y4_5 + 1)
    · refine tr_iinc C (i := 4) (d := 1) (lv' := [some (.ref (ad 0)), some (.ref (ad b1)), some (.int a2), some (.int y3_5), some (.int (y4_5 + 1))]) dX4_kindsTold_40 rfl (by decide) (by decide) rfl ?_
      refine tr_goto C (tgt := 5) dX4_kindsTold_43 (by decide) ?_
      exact IH5 (σ2, y3_5, y4_5 + 1)
def fX4_numbersTold_L5 (b1 : Nat) (a2 : Int32) (ih5 : Mem × Int32 × Int32 → Option (Int32 × Mem)) : Mem × Int32 × Int32 → Option (Int32 × Mem) := fun v => match v with
  | (σ5, y3_5, y4_5) =>
    if 10 ≤ y4_5 then (
      some (y3_5, σ5)
    ) else (
      gd (inB a2 8) (stp (wr σ5 54 a2 y4_5) fun σw1 => (
        bnd (fX4_firstOtherwise b1 a2 σw1) fun r2 σ2 => (
          if r2 = (-1) then (
            ih5 (σ2, y3_5 ||| (1 <<< (y4_5 &&& 31)), y4_5 + 1)
          ) else (
            ih5 (σ2, y3_5, y4_5 + 1)
          )
        )
      ))
    )
def fX4_numbersTold (b1 : Nat) (a2 : Int32) (σ : Mem) : Option (Int32 × Mem) :=
  loopN (fX4_numbersTold_L5 b1 a2) 1000 (σ, 0, 0)
set_option maxHeartbeats 4000000 in
set_option maxRecDepth 100000 in
theorem kX4_numbersTold (l : Launch) (g : GG) (cs : CS) (ad : Nat → Nat) (b1 : Nat) (a2 : Int32) (hb1 : isSt b1) (σ : Mem) : CtI l g cs ad (shC g) mX4_numbersTold (.code mX4_numbersTold cX4_numbersTold 5 (some .int)) { frames := 4, cells := 0, slots := 0, locals := 94 } [.ref (ad 0), .ref (ad b1), .int a2] σ (fX4_numbersTold b1 a2 σ) := by
  refine ctI_intro (own := "KinInTheHeap") (by decide +kernel) rfl [some (.ref (ad 0)), some (.ref (ad b1)), some (.int a2), none, none] (Nat.le_of_ble_eq_true rfl) rfl ?_
  intro p e s m args below meth c A C hr hlk
  refine tr_iconst C (v := 0) dX4_numbersTold_0 (by decide) ?_
  refine tr_istore_n C (i := 3) (lv' := [some (.ref (ad 0)), some (.ref (ad b1)), some (.int a2), some (.int 0), none]) dX4_numbersTold_1 rfl (by decide) rfl ?_
  refine tr_iconst C (v := 0) dX4_numbersTold_2 (by decide) ?_
  refine tr_istore C (i := 4) (lv' := [some (.ref (ad 0)), some (.ref (ad b1)), some (.int a2), some (.int 0), some (.int 0)]) dX4_numbersTold_3 (by decide) rfl ?_
  refine tr_loop (b := fX4_numbersTold_L5 b1 a2) (sg := fun v => v.1) (lw := fun v => [some (.ref (ad 0)), some (.ref (ad b1)), some (.int a2), some (.int v.2.1), some (.int v.2.2)]) (sw := fun v => []) (fun ih5 IH5 v => ?_) 1000 (σ, 0, 0)
  obtain ⟨σ5, y3_5, y4_5⟩ := v
  refine tr_st (σ' := σ5) (lv' := [some (.ref (ad 0)), some (.ref (ad b1)), some (.int a2), some (.int y3_5), some (.int y4_5)]) (st' := []) rfl rfl rfl ?_
  refine tr_iload C (i := 4) dX4_numbersTold_5 rfl ?_
  refine tr_bipush C (v := 10) dX4_numbersTold_7 (by decide) ?_
  refine tr_icmp_ge C (tgt := 46) dX4_numbersTold_9 (by decide) (fun q5 => ?_) (fun q5 => ?_)
  · refine tr_iload_n C (i := 3) dX4_numbersTold_46 rfl rfl ?_
    exact tr_iret C hr hlk dX4_numbersTold_47
  · refine tr_aload_n C (i := 0) dX4_numbersTold_12 rfl rfl ?_
    refine tr_getR C (k := 5) (ci := 4) rfl rfl rfl inT4 rfl (by decide) w269 dX4_numbersTold_13 ?_
    refine tr_getR C (k := 1) (ci := 0) (fl_0 fl52) rfl rfl inT0 rfl (by decide) w225 dX4_numbersTold_16 ?_
    refine tr_iload_n C (i := 2) dX4_numbersTold_19 rfl rfl ?_
    refine tr_iload C (i := 4) dX4_numbersTold_20 rfl ?_
    refine tr_iast C (n := 8) (σ' := wr σ5 54 a2 y4_5) (fl_2 fl52) dX4_numbersTold_22 rfl (fun h4 => ?_)
    refine tr_stp (fun σw1 eσw1 => ?_)
    refine tr_aload_n C (i := 0) dX4_numbersTold_23 rfl rfl ?_
    refine tr_aload_n C (i := 1) dX4_numbersTold_24 rfl rfl ?_
    refine tr_iload_n C (i := 2) dX4_numbersTold_25 rfl rfl ?_
    refine tr_cVI C (av := [.ref (ad b1), .int a2]) (st := []) (kX4_firstOtherwise l g cs ad b1 a2 hb1 σw1) mwX4_firstOtherwise w832 rfl rfl ⟨rfl, rfl⟩ ⟨(Nat.le_of_ble_eq_true rfl), (Nat.le_of_ble_eq_true rfl)⟩ rfl rfl (Nat.le_of_ble_eq_true rfl) dX4_numbersTold_26 (fun r2 σ2 hr2 => ?_)
    refine tr_iconst C (v := -1) dX4_numbersTold_29 (by decide) ?_
    refine tr_icmp_ne C (tgt := 40) dX4_numbersTold_30 (by decide) (fun q3 => ?_) (fun q3 => ?_)
    · refine tr_iload_n C (i := 3) dX4_numbersTold_33 rfl rfl ?_
      refine tr_iconst C (v := 1) dX4_numbersTold_34 (by decide) ?_
      refine tr_iload C (i := 4) dX4_numbersTold_35 rfl ?_
      refine tr_ishl C dX4_numbersTold_37 ?_
      refine tr_ior C dX4_numbersTold_38 ?_
      refine tr_istore_n C (i := 3) (lv' := [some (.ref (ad 0)), some (.ref (ad b1)), some (.int a2), some (.int (y3_5 ||| (1 <<< (y4_5 &&& 31)))), some (.int y4_5)]) dX4_numbersTold_39 rfl (by decide) rfl ?_
      refine tr_iinc C (i := 4) (d := 1) (lv' := [some (.ref (ad 0)), some (.ref (ad b1)), some (.int a2), some (.int (y3_5 ||| (1 <<< (y4_5 &&& 31)))), some (.int (y4_5 + 1))]) dX4_numbersTold_40 rfl (by decide) (by decide) rfl ?_
      refine tr_goto C (tgt := 5) dX4_numbersTold_43 (by decide) ?_
      exact IH5 (σ2, y3_5 ||| (1 <<< (y4_5 &&& 31)), y4_5 + 1)
    · refine tr_iinc C (i := 4) (d := 1) (lv' := [some (.ref (ad 0)), some (.ref (ad b1)), some (.int a2), some (.int y3_5), some (.int (y4_5 + 1))]) dX4_numbersTold_40 rfl (by decide) (by decide) rfl ?_
      refine tr_goto C (tgt := 5) dX4_numbersTold_43 (by decide) ?_
      exact IH5 (σ2, y3_5, y4_5 + 1)
def fX4_weeksTold_L5 (b1 : Nat) (a2 : Int32) (ih5 : Mem × Int32 × Int32 → Option (Int32 × Mem)) : Mem × Int32 × Int32 → Option (Int32 × Mem) := fun v => match v with
  | (σ5, y3_5, y4_5) =>
    if 100 ≤ y4_5 then (
      some (y3_5, σ5)
    ) else (
      stp (putI σ5 52 4 y4_5) fun σw1 => (
        bnd (fX4_firstOtherwise b1 a2 σw1) fun r2 σ2 => (
          if r2 = (-1) then (
            ih5 (σ2, y3_5 + 1, y4_5 + 1)
          ) else (
            ih5 (σ2, y3_5, y4_5 + 1)
          )
        )
      )
    )
def fX4_weeksTold (b1 : Nat) (a2 : Int32) (σ : Mem) : Option (Int32 × Mem) :=
  loopN (fX4_weeksTold_L5 b1 a2) 1000 (σ, 0, 0)
set_option maxHeartbeats 4000000 in
set_option maxRecDepth 100000 in
theorem kX4_weeksTold (l : Launch) (g : GG) (cs : CS) (ad : Nat → Nat) (b1 : Nat) (a2 : Int32) (hb1 : isSt b1) (σ : Mem) : CtI l g cs ad (shC g) mX4_weeksTold (.code mX4_weeksTold cX4_weeksTold 5 (some .int)) { frames := 4, cells := 0, slots := 0, locals := 94 } [.ref (ad 0), .ref (ad b1), .int a2] σ (fX4_weeksTold b1 a2 σ) := by
  refine ctI_intro (own := "KinInTheHeap") (by decide +kernel) rfl [some (.ref (ad 0)), some (.ref (ad b1)), some (.int a2), none, none] (Nat.le_of_ble_eq_true rfl) rfl ?_
  intro p e s m args below meth c A C hr hlk
  refine tr_iconst C (v := 0) dX4_weeksTold_0 (by decide) ?_
  refine tr_istore_n C (i := 3) (lv' := [some (.ref (ad 0)), some (.ref (ad b1)), some (.int a2), some (.int 0), none]) dX4_weeksTold_1 rfl (by decide) rfl ?_
  refine tr_iconst C (v := 0) dX4_weeksTold_2 (by decide) ?_
  refine tr_istore C (i := 4) (lv' := [some (.ref (ad 0)), some (.ref (ad b1)), some (.int a2), some (.int 0), some (.int 0)]) dX4_weeksTold_3 (by decide) rfl ?_
  refine tr_loop (b := fX4_weeksTold_L5 b1 a2) (sg := fun v => v.1) (lw := fun v => [some (.ref (ad 0)), some (.ref (ad b1)), some (.int a2), some (.int v.2.1), some (.int v.2.2)]) (sw := fun v => []) (fun ih5 IH5 v => ?_) 1000 (σ, 0, 0)
  obtain ⟨σ5, y3_5, y4_5⟩ := v
  refine tr_st (σ' := σ5) (lv' := [some (.ref (ad 0)), some (.ref (ad b1)), some (.int a2), some (.int y3_5), some (.int y4_5)]) (st' := []) rfl rfl rfl ?_
  refine tr_iload C (i := 4) dX4_weeksTold_5 rfl ?_
  refine tr_bipush C (v := 100) dX4_weeksTold_7 (by decide) ?_
  refine tr_icmp_ge C (tgt := 40) dX4_weeksTold_9 (by decide) (fun q4 => ?_) (fun q4 => ?_)
  · refine tr_iload_n C (i := 3) dX4_weeksTold_40 rfl rfl ?_
    exact tr_iret C hr hlk dX4_weeksTold_41
  · refine tr_aload_n C (i := 0) dX4_weeksTold_12 rfl rfl ?_
    refine tr_getR C (k := 5) (ci := 4) rfl rfl rfl inT4 rfl (by decide) w269 dX4_weeksTold_13 ?_
    refine tr_iload C (i := 4) dX4_weeksTold_16 rfl ?_
    refine tr_putI C (k := 4) (ci := 0) (σ' := putI σ5 52 4 y4_5) (fl_0 fl52) rfl rfl inT0 rfl (by decide) tyX0 tyX0_ok nmX0 rfl rfl w231 dX4_weeksTold_18 rfl ?_
    refine tr_stp (fun σw1 eσw1 => ?_)
    refine tr_aload_n C (i := 0) dX4_weeksTold_21 rfl rfl ?_
    refine tr_aload_n C (i := 1) dX4_weeksTold_22 rfl rfl ?_
    refine tr_iload_n C (i := 2) dX4_weeksTold_23 rfl rfl ?_
    refine tr_cVI C (av := [.ref (ad b1), .int a2]) (st := []) (kX4_firstOtherwise l g cs ad b1 a2 hb1 σw1) mwX4_firstOtherwise w832 rfl rfl ⟨rfl, rfl⟩ ⟨(Nat.le_of_ble_eq_true rfl), (Nat.le_of_ble_eq_true rfl)⟩ rfl rfl (Nat.le_of_ble_eq_true rfl) dX4_weeksTold_24 (fun r2 σ2 hr2 => ?_)
    refine tr_iconst C (v := -1) dX4_weeksTold_27 (by decide) ?_
    refine tr_icmp_ne C (tgt := 34) dX4_weeksTold_28 (by decide) (fun q3 => ?_) (fun q3 => ?_)
    · refine tr_iinc C (i := 3) (d := 1) (lv' := [some (.ref (ad 0)), some (.ref (ad b1)), some (.int a2), some (.int (y3_5 + 1)), some (.int y4_5)]) dX4_weeksTold_31 rfl (by decide) (by decide) rfl ?_
      refine tr_iinc C (i := 4) (d := 1) (lv' := [some (.ref (ad 0)), some (.ref (ad b1)), some (.int a2), some (.int (y3_5 + 1)), some (.int (y4_5 + 1))]) dX4_weeksTold_34 rfl (by decide) (by decide) rfl ?_
      refine tr_goto C (tgt := 5) dX4_weeksTold_37 (by decide) ?_
      exact IH5 (σ2, y3_5 + 1, y4_5 + 1)
    · refine tr_iinc C (i := 4) (d := 1) (lv' := [some (.ref (ad 0)), some (.ref (ad b1)), some (.int a2), some (.int y3_5), some (.int (y4_5 + 1))]) dX4_weeksTold_34 rfl (by decide) (by decide) rfl ?_
      refine tr_goto C (tgt := 5) dX4_weeksTold_37 (by decide) ?_
      exact IH5 (σ2, y3_5, y4_5 + 1)
def fX4_leastWeekTold_L2 (b1 : Nat) (a2 : Int32) (ih2 : Mem × Int32 → Option (Int32 × Mem)) : Mem × Int32 → Option (Int32 × Mem) := fun v => match v with
  | (σ2, y3_2) =>
    if 100 ≤ y3_2 then (
      some (-1, σ2)
    ) else (
      stp (putI σ2 52 4 y3_2) fun σw1 => (
        bnd (fX4_firstOtherwise b1 a2 σw1) fun r2 σ2 => (
          if r2 = (-1) then (
            some (y3_2, σ2)
          ) else (
            ih2 (σ2, y3_2 + 1)
          )
        )
      )
    )
def fX4_leastWeekTold (b1 : Nat) (a2 : Int32) (σ : Mem) : Option (Int32 × Mem) :=
  loopN (fX4_leastWeekTold_L2 b1 a2) 1000 (σ, 0)
set_option maxHeartbeats 4000000 in
set_option maxRecDepth 100000 in
theorem kX4_leastWeekTold (l : Launch) (g : GG) (cs : CS) (ad : Nat → Nat) (b1 : Nat) (a2 : Int32) (hb1 : isSt b1) (σ : Mem) : CtI l g cs ad (shC g) mX4_leastWeekTold (.code mX4_leastWeekTold cX4_leastWeekTold 4 (some .int)) { frames := 4, cells := 0, slots := 0, locals := 94 } [.ref (ad 0), .ref (ad b1), .int a2] σ (fX4_leastWeekTold b1 a2 σ) := by
  refine ctI_intro (own := "KinInTheHeap") (by decide +kernel) rfl [some (.ref (ad 0)), some (.ref (ad b1)), some (.int a2), none] (Nat.le_of_ble_eq_true rfl) rfl ?_
  intro p e s m args below meth c A C hr hlk
  refine tr_iconst C (v := 0) dX4_leastWeekTold_0 (by decide) ?_
  refine tr_istore_n C (i := 3) (lv' := [some (.ref (ad 0)), some (.ref (ad b1)), some (.int a2), some (.int 0)]) dX4_leastWeekTold_1 rfl (by decide) rfl ?_
  refine tr_loop (b := fX4_leastWeekTold_L2 b1 a2) (sg := fun v => v.1) (lw := fun v => [some (.ref (ad 0)), some (.ref (ad b1)), some (.int a2), some (.int v.2)]) (sw := fun v => []) (fun ih2 IH2 v => ?_) 1000 (σ, 0)
  obtain ⟨σ2, y3_2⟩ := v
  refine tr_st (σ' := σ2) (lv' := [some (.ref (ad 0)), some (.ref (ad b1)), some (.int a2), some (.int y3_2)]) (st' := []) rfl rfl rfl ?_
  refine tr_iload_n C (i := 3) dX4_leastWeekTold_2 rfl rfl ?_
  refine tr_bipush C (v := 100) dX4_leastWeekTold_3 (by decide) ?_
  refine tr_icmp_ge C (tgt := 34) dX4_leastWeekTold_5 (by decide) (fun q4 => ?_) (fun q4 => ?_)
  · refine tr_iconst C (v := -1) dX4_leastWeekTold_34 (by decide) ?_
    exact tr_iret C hr hlk dX4_leastWeekTold_35
  · refine tr_aload_n C (i := 0) dX4_leastWeekTold_8 rfl rfl ?_
    refine tr_getR C (k := 5) (ci := 4) rfl rfl rfl inT4 rfl (by decide) w269 dX4_leastWeekTold_9 ?_
    refine tr_iload_n C (i := 3) dX4_leastWeekTold_12 rfl rfl ?_
    refine tr_putI C (k := 4) (ci := 0) (σ' := putI σ2 52 4 y3_2) (fl_0 fl52) rfl rfl inT0 rfl (by decide) tyX0 tyX0_ok nmX0 rfl rfl w231 dX4_leastWeekTold_13 rfl ?_
    refine tr_stp (fun σw1 eσw1 => ?_)
    refine tr_aload_n C (i := 0) dX4_leastWeekTold_16 rfl rfl ?_
    refine tr_aload_n C (i := 1) dX4_leastWeekTold_17 rfl rfl ?_
    refine tr_iload_n C (i := 2) dX4_leastWeekTold_18 rfl rfl ?_
    refine tr_cVI C (av := [.ref (ad b1), .int a2]) (st := []) (kX4_firstOtherwise l g cs ad b1 a2 hb1 σw1) mwX4_firstOtherwise w832 rfl rfl ⟨rfl, rfl⟩ ⟨(Nat.le_of_ble_eq_true rfl), (Nat.le_of_ble_eq_true rfl)⟩ rfl rfl (Nat.le_of_ble_eq_true rfl) dX4_leastWeekTold_19 (fun r2 σ2 hr2 => ?_)
    refine tr_iconst C (v := -1) dX4_leastWeekTold_22 (by decide) ?_
    refine tr_icmp_ne C (tgt := 28) dX4_leastWeekTold_23 (by decide) (fun q3 => ?_) (fun q3 => ?_)
    · refine tr_iload_n C (i := 3) dX4_leastWeekTold_26 rfl rfl ?_
      exact tr_iret C hr hlk dX4_leastWeekTold_27
    · refine tr_iinc C (i := 3) (d := 1) (lv' := [some (.ref (ad 0)), some (.ref (ad b1)), some (.int a2), some (.int (y3_2 + 1))]) dX4_leastWeekTold_28 rfl (by decide) (by decide) rfl ?_
      refine tr_goto C (tgt := 2) dX4_leastWeekTold_31 (by decide) ?_
      exact IH2 (σ2, y3_2 + 1)
def fX4_textsTold_L5 (b1 : Nat) (a2 : Int32) (ih5 : Mem × Int32 × Int32 → Option (Int32 × Mem)) : Mem × Int32 × Int32 → Option (Int32 × Mem) := fun v => match v with
  | (σ5, y3_5, y4_5) =>
    if (σ5.1 0 7) ≤ y4_5 then (
      some (y3_5, σ5)
    ) else (
      stp (putI σ5 52 6 y4_5) fun σw1 => (
        bnd (fX4_firstOtherwise b1 a2 σw1) fun r2 σ2 => (
          if r2 = (-1) then (
            ih5 (σ2, y3_5 ||| (1 <<< (y4_5 &&& 31)), y4_5 + 1)
          ) else (
            ih5 (σ2, y3_5, y4_5 + 1)
          )
        )
      )
    )
def fX4_textsTold (b1 : Nat) (a2 : Int32) (σ : Mem) : Option (Int32 × Mem) :=
  loopN (fX4_textsTold_L5 b1 a2) 1000 (σ, 0, 0)
set_option maxHeartbeats 4000000 in
set_option maxRecDepth 100000 in
theorem kX4_textsTold (l : Launch) (g : GG) (cs : CS) (ad : Nat → Nat) (b1 : Nat) (a2 : Int32) (hb1 : isSt b1) (σ : Mem) : CtI l g cs ad (shC g) mX4_textsTold (.code mX4_textsTold cX4_textsTold 5 (some .int)) { frames := 4, cells := 0, slots := 0, locals := 94 } [.ref (ad 0), .ref (ad b1), .int a2] σ (fX4_textsTold b1 a2 σ) := by
  refine ctI_intro (own := "KinInTheHeap") (by decide +kernel) rfl [some (.ref (ad 0)), some (.ref (ad b1)), some (.int a2), none, none] (Nat.le_of_ble_eq_true rfl) rfl ?_
  intro p e s m args below meth c A C hr hlk
  refine tr_iconst C (v := 0) dX4_textsTold_0 (by decide) ?_
  refine tr_istore_n C (i := 3) (lv' := [some (.ref (ad 0)), some (.ref (ad b1)), some (.int a2), some (.int 0), none]) dX4_textsTold_1 rfl (by decide) rfl ?_
  refine tr_iconst C (v := 0) dX4_textsTold_2 (by decide) ?_
  refine tr_istore C (i := 4) (lv' := [some (.ref (ad 0)), some (.ref (ad b1)), some (.int a2), some (.int 0), some (.int 0)]) dX4_textsTold_3 (by decide) rfl ?_
  refine tr_loop (b := fX4_textsTold_L5 b1 a2) (sg := fun v => v.1) (lw := fun v => [some (.ref (ad 0)), some (.ref (ad b1)), some (.int a2), some (.int v.2.1), some (.int v.2.2)]) (sw := fun v => []) (fun ih5 IH5 v => ?_) 1000 (σ, 0, 0)
  obtain ⟨σ5, y3_5, y4_5⟩ := v
  refine tr_st (σ' := σ5) (lv' := [some (.ref (ad 0)), some (.ref (ad b1)), some (.int a2), some (.int y3_5), some (.int y4_5)]) (st' := []) rfl rfl rfl ?_
  refine tr_iload C (i := 4) dX4_textsTold_5 rfl ?_
  refine tr_aload_n C (i := 0) dX4_textsTold_7 rfl rfl ?_
  refine tr_getI C (k := 7) (ci := 4) rfl rfl rfl inT4 rfl (by decide) w271 dX4_textsTold_8 ?_
  refine tr_icmp_ge C (tgt := 46) dX4_textsTold_11 (by decide) (fun q4 => ?_) (fun q4 => ?_)
  · refine tr_iload_n C (i := 3) dX4_textsTold_46 rfl rfl ?_
    exact tr_iret C hr hlk dX4_textsTold_47
  · refine tr_aload_n C (i := 0) dX4_textsTold_14 rfl rfl ?_
    refine tr_getR C (k := 5) (ci := 4) rfl rfl rfl inT4 rfl (by decide) w269 dX4_textsTold_15 ?_
    refine tr_iload C (i := 4) dX4_textsTold_18 rfl ?_
    refine tr_putI C (k := 6) (ci := 0) (σ' := putI σ5 52 6 y4_5) (fl_0 fl52) rfl rfl inT0 rfl (by decide) tyX0 tyX0_ok nmX0 rfl rfl w235 dX4_textsTold_20 rfl ?_
    refine tr_stp (fun σw1 eσw1 => ?_)
    refine tr_aload_n C (i := 0) dX4_textsTold_23 rfl rfl ?_
    refine tr_aload_n C (i := 1) dX4_textsTold_24 rfl rfl ?_
    refine tr_iload_n C (i := 2) dX4_textsTold_25 rfl rfl ?_
    refine tr_cVI C (av := [.ref (ad b1), .int a2]) (st := []) (kX4_firstOtherwise l g cs ad b1 a2 hb1 σw1) mwX4_firstOtherwise w832 rfl rfl ⟨rfl, rfl⟩ ⟨(Nat.le_of_ble_eq_true rfl), (Nat.le_of_ble_eq_true rfl)⟩ rfl rfl (Nat.le_of_ble_eq_true rfl) dX4_textsTold_26 (fun r2 σ2 hr2 => ?_)
    refine tr_iconst C (v := -1) dX4_textsTold_29 (by decide) ?_
    refine tr_icmp_ne C (tgt := 40) dX4_textsTold_30 (by decide) (fun q3 => ?_) (fun q3 => ?_)
    · refine tr_iload_n C (i := 3) dX4_textsTold_33 rfl rfl ?_
      refine tr_iconst C (v := 1) dX4_textsTold_34 (by decide) ?_
      refine tr_iload C (i := 4) dX4_textsTold_35 rfl ?_
      refine tr_ishl C dX4_textsTold_37 ?_
      refine tr_ior C dX4_textsTold_38 ?_
      refine tr_istore_n C (i := 3) (lv' := [some (.ref (ad 0)), some (.ref (ad b1)), some (.int a2), some (.int (y3_5 ||| (1 <<< (y4_5 &&& 31)))), some (.int y4_5)]) dX4_textsTold_39 rfl (by decide) rfl ?_
      refine tr_iinc C (i := 4) (d := 1) (lv' := [some (.ref (ad 0)), some (.ref (ad b1)), some (.int a2), some (.int (y3_5 ||| (1 <<< (y4_5 &&& 31)))), some (.int (y4_5 + 1))]) dX4_textsTold_40 rfl (by decide) (by decide) rfl ?_
      refine tr_goto C (tgt := 5) dX4_textsTold_43 (by decide) ?_
      exact IH5 (σ2, y3_5 ||| (1 <<< (y4_5 &&& 31)), y4_5 + 1)
    · refine tr_iinc C (i := 4) (d := 1) (lv' := [some (.ref (ad 0)), some (.ref (ad b1)), some (.int a2), some (.int y3_5), some (.int (y4_5 + 1))]) dX4_textsTold_40 rfl (by decide) (by decide) rfl ?_
      refine tr_goto C (tgt := 5) dX4_textsTold_43 (by decide) ?_
      exact IH5 (σ2, y3_5, y4_5 + 1)
def fX4_dustTold_L4 (b1 : Nat) (ih4 : Mem × Int32 × Int32 → Option (Int32 × Mem)) : Mem × Int32 × Int32 → Option (Int32 × Mem) := fun v => match v with
  | (σ4, y2_4, y3_4) =>
    if (σ4.1 40 7) ≤ y3_4 then (
      some (y2_4, σ4)
    ) else (
      bn1 (fX0_isIn 40 y3_4 σ4) fun r1 => (
        if r1 = 0 then (
          ih4 (σ4, y2_4, y3_4 + 1)
        ) else (
          bnd (fX4_firstOtherwise b1 y3_4 σ4) fun r2 σ2 => (
            if r2 = (-1) then (
              ih4 (σ2, y2_4 ||| (1 <<< (y3_4 &&& 31)), y3_4 + 1)
            ) else (
              ih4 (σ2, y2_4, y3_4 + 1)
            )
          )
        )
      )
    )
def fX4_dustTold (b1 : Nat) (σ : Mem) : Option (Int32 × Mem) :=
  loopN (fX4_dustTold_L4 b1) 1000 (σ, 0, 0)
set_option maxHeartbeats 4000000 in
set_option maxRecDepth 100000 in
theorem kX4_dustTold (l : Launch) (g : GG) (cs : CS) (ad : Nat → Nat) (b1 : Nat) (hb1 : isSt b1) (σ : Mem) : CtI l g cs ad (shC g) mX4_dustTold (.code mX4_dustTold cX4_dustTold 4 (some .int)) { frames := 4, cells := 0, slots := 0, locals := 94 } [.ref (ad 0), .ref (ad b1)] σ (fX4_dustTold b1 σ) := by
  refine ctI_intro (own := "KinInTheHeap") (by decide +kernel) rfl [some (.ref (ad 0)), some (.ref (ad b1)), none, none] (Nat.le_of_ble_eq_true rfl) rfl ?_
  intro p e s m args below meth c A C hr hlk
  refine tr_iconst C (v := 0) dX4_dustTold_0 (by decide) ?_
  refine tr_istore_n C (i := 2) (lv' := [some (.ref (ad 0)), some (.ref (ad b1)), some (.int 0), none]) dX4_dustTold_1 rfl (by decide) rfl ?_
  refine tr_iconst C (v := 0) dX4_dustTold_2 (by decide) ?_
  refine tr_istore_n C (i := 3) (lv' := [some (.ref (ad 0)), some (.ref (ad b1)), some (.int 0), some (.int 0)]) dX4_dustTold_3 rfl (by decide) rfl ?_
  refine tr_loop (b := fX4_dustTold_L4 b1) (sg := fun v => v.1) (lw := fun v => [some (.ref (ad 0)), some (.ref (ad b1)), some (.int v.2.1), some (.int v.2.2)]) (sw := fun v => []) (fun ih4 IH4 v => ?_) 1000 (σ, 0, 0)
  obtain ⟨σ4, y2_4, y3_4⟩ := v
  refine tr_st (σ' := σ4) (lv' := [some (.ref (ad 0)), some (.ref (ad b1)), some (.int y2_4), some (.int y3_4)]) (st' := []) rfl rfl rfl ?_
  refine tr_iload_n C (i := 3) dX4_dustTold_4 rfl rfl ?_
  refine tr_aload_n C (i := 0) dX4_dustTold_5 rfl rfl ?_
  refine tr_getR C (k := 3) (ci := 4) rfl rfl rfl inT4 rfl (by decide) w267 dX4_dustTold_6 ?_
  refine tr_getI C (k := 7) (ci := 0) (fl_0 fl40) rfl rfl inT0 rfl (by decide) w237 dX4_dustTold_9 ?_
  refine tr_icmp_ge C (tgt := 48) dX4_dustTold_12 (by decide) (fun q5 => ?_) (fun q5 => ?_)
  · refine tr_iload_n C (i := 2) dX4_dustTold_48 rfl rfl ?_
    exact tr_iret C hr hlk dX4_dustTold_49
  · refine tr_aload_n C (i := 0) dX4_dustTold_15 rfl rfl ?_
    refine tr_getR C (k := 3) (ci := 4) rfl rfl rfl inT4 rfl (by decide) w267 dX4_dustTold_16 ?_
    refine tr_iload_n C (i := 3) dX4_dustTold_19 rfl rfl ?_
    refine tr_cVIP C (av := [.int y3_4]) (st := []) (kX0_isIn l g cs ad 40 y3_4 fl40 σ4) mwX0_isIn w363 (fl_0 fl40) rfl ⟨rfl, rfl⟩ ⟨(Nat.le_of_ble_eq_true rfl), (Nat.le_of_ble_eq_true rfl)⟩ rfl rfl (Nat.le_of_ble_eq_true rfl) dX4_dustTold_20 (fun r1 hr1 => ?_)
    refine tr_if_eq C (tgt := 42) dX4_dustTold_23 (by decide) (fun q4 => ?_) (fun q4 => ?_)
    · refine tr_iinc C (i := 3) (d := 1) (lv' := [some (.ref (ad 0)), some (.ref (ad b1)), some (.int y2_4), some (.int (y3_4 + 1))]) dX4_dustTold_42 rfl (by decide) (by decide) rfl ?_
      refine tr_goto C (tgt := 4) dX4_dustTold_45 (by decide) ?_
      exact IH4 (σ4, y2_4, y3_4 + 1)
    · refine tr_aload_n C (i := 0) dX4_dustTold_26 rfl rfl ?_
      refine tr_aload_n C (i := 1) dX4_dustTold_27 rfl rfl ?_
      refine tr_iload_n C (i := 3) dX4_dustTold_28 rfl rfl ?_
      refine tr_cVI C (av := [.ref (ad b1), .int y3_4]) (st := []) (kX4_firstOtherwise l g cs ad b1 y3_4 hb1 σ4) mwX4_firstOtherwise w832 rfl rfl ⟨rfl, rfl⟩ ⟨(Nat.le_of_ble_eq_true rfl), (Nat.le_of_ble_eq_true rfl)⟩ rfl rfl (Nat.le_of_ble_eq_true rfl) dX4_dustTold_29 (fun r2 σ2 hr2 => ?_)
      refine tr_iconst C (v := -1) dX4_dustTold_32 (by decide) ?_
      refine tr_icmp_ne C (tgt := 42) dX4_dustTold_33 (by decide) (fun q3 => ?_) (fun q3 => ?_)
      · refine tr_iload_n C (i := 2) dX4_dustTold_36 rfl rfl ?_
        refine tr_iconst C (v := 1) dX4_dustTold_37 (by decide) ?_
        refine tr_iload_n C (i := 3) dX4_dustTold_38 rfl rfl ?_
        refine tr_ishl C dX4_dustTold_39 ?_
        refine tr_ior C dX4_dustTold_40 ?_
        refine tr_istore_n C (i := 2) (lv' := [some (.ref (ad 0)), some (.ref (ad b1)), some (.int (y2_4 ||| (1 <<< (y3_4 &&& 31)))), some (.int y3_4)]) dX4_dustTold_41 rfl (by decide) rfl ?_
        refine tr_iinc C (i := 3) (d := 1) (lv' := [some (.ref (ad 0)), some (.ref (ad b1)), some (.int (y2_4 ||| (1 <<< (y3_4 &&& 31)))), some (.int (y3_4 + 1))]) dX4_dustTold_42 rfl (by decide) (by decide) rfl ?_
        refine tr_goto C (tgt := 4) dX4_dustTold_45 (by decide) ?_
        exact IH4 (σ2, y2_4 ||| (1 <<< (y3_4 &&& 31)), y3_4 + 1)
      · refine tr_iinc C (i := 3) (d := 1) (lv' := [some (.ref (ad 0)), some (.ref (ad b1)), some (.int y2_4), some (.int (y3_4 + 1))]) dX4_dustTold_42 rfl (by decide) (by decide) rfl ?_
        refine tr_goto C (tgt := 4) dX4_dustTold_45 (by decide) ?_
        exact IH4 (σ2, y2_4, y3_4 + 1)
def fX4_toldBack (b1 : Nat) (a2 : Int32) (a3 : Int32) (σ : Mem) : Option (Int32 × Mem) :=
  bn1 (fX0_become 52 40 σ) fun σ1 => (
    if a3 = 0 then (
      bnd (fX4_firstOtherwise b1 a2 σ1) fun r14 σ14 => (
        some (r14, σ14)
      )
    ) else (
      if a3 = 1 then (
        bnd (fX4_kindsTold b1 a2 σ1) fun r13 σ13 => (
          some (r13, σ13)
        )
      ) else (
        if a3 = 2 then (
          bnd (fX4_numbersTold b1 a2 σ1) fun r12 σ12 => (
            some (r12, σ12)
          )
        ) else (
          if a3 = 3 then (
            bnd (fX4_weeksTold b1 a2 σ1) fun r11 σ11 => (
              some (r11, σ11)
            )
          ) else (
            if a3 = 4 then (
              bnd (fX4_leastWeekTold b1 a2 σ1) fun r10 σ10 => (
                some (r10, σ10)
              )
            ) else (
              if a3 = 5 then (
                bnd (fX4_textsTold b1 a2 σ1) fun r9 σ9 => (
                  some (r9, σ9)
                )
              ) else (
                bnd (fX4_dustTold b1 σ1) fun r2 σ2 => (
                  some (r2, σ2)
                )
              )
            )
          )
        )
      )
    )
  )
set_option maxHeartbeats 4000000 in
set_option maxRecDepth 100000 in
theorem kX4_toldBack (l : Launch) (g : GG) (cs : CS) (ad : Nat → Nat) (b1 : Nat) (a2 : Int32) (a3 : Int32) (hb1 : isSt b1) (σ : Mem) : CtI l g cs ad (shC g) mX4_toldBack (.code mX4_toldBack cX4_toldBack 4 (some .int)) { frames := 5, cells := 0, slots := 0, locals := 118 } [.ref (ad 0), .ref (ad b1), .int a2, .int a3] σ (fX4_toldBack b1 a2 a3 σ) := by
  refine ctI_intro (own := "KinInTheHeap") (by decide +kernel) rfl [some (.ref (ad 0)), some (.ref (ad b1)), some (.int a2), some (.int a3)] (Nat.le_of_ble_eq_true rfl) rfl ?_
  intro p e s m args below meth c A C hr hlk
  refine tr_aload_n C (i := 0) dX4_toldBack_0 rfl rfl ?_
  refine tr_getR C (k := 5) (ci := 4) rfl rfl rfl inT4 rfl (by decide) w269 dX4_toldBack_1 ?_
  refine tr_aload_n C (i := 0) dX4_toldBack_4 rfl rfl ?_
  refine tr_getR C (k := 3) (ci := 4) rfl rfl rfl inT4 rfl (by decide) w267 dX4_toldBack_5 ?_
  refine tr_cVV C (av := [.ref (ad 40)]) (st := []) (kX0_become l g cs ad 52 40 fl52 fl40 σ) mwX0_become w687 (fl_0 fl52) rfl ⟨rfl, rfl⟩ ⟨(Nat.le_of_ble_eq_true rfl), (Nat.le_of_ble_eq_true rfl)⟩ rfl rfl (Nat.le_of_ble_eq_true rfl) dX4_toldBack_8 (fun σ1 hr1 => ?_)
  refine tr_iload_n C (i := 3) dX4_toldBack_11 rfl rfl ?_
  refine tr_ite (fun q3 => ?_) (fun q3 => ?_)
  · refine tr_tin C (k := 0) (tgt := 52) dX4_toldBack_12 q3 (by decide) (by decide) rfl (by decide) ?_
    refine tr_aload_n C (i := 0) dX4_toldBack_52 rfl rfl ?_
    refine tr_aload_n C (i := 1) dX4_toldBack_53 rfl rfl ?_
    refine tr_iload_n C (i := 2) dX4_toldBack_54 rfl rfl ?_
    refine tr_cVI C (av := [.ref (ad b1), .int a2]) (st := []) (kX4_firstOtherwise l g cs ad b1 a2 hb1 σ1) mwX4_firstOtherwise w832 rfl rfl ⟨rfl, rfl⟩ ⟨(Nat.le_of_ble_eq_true rfl), (Nat.le_of_ble_eq_true rfl)⟩ rfl rfl (Nat.le_of_ble_eq_true rfl) dX4_toldBack_55 (fun r14 σ14 hr14 => ?_)
    exact tr_iret C hr hlk dX4_toldBack_58
  · refine tr_ite (fun q4 => ?_) (fun q4 => ?_)
    · refine tr_tin C (k := 1) (tgt := 59) dX4_toldBack_12 q4 (by decide) (by decide) rfl (by decide) ?_
      refine tr_aload_n C (i := 0) dX4_toldBack_59 rfl rfl ?_
      refine tr_aload_n C (i := 1) dX4_toldBack_60 rfl rfl ?_
      refine tr_iload_n C (i := 2) dX4_toldBack_61 rfl rfl ?_
      refine tr_cVI C (av := [.ref (ad b1), .int a2]) (st := []) (kX4_kindsTold l g cs ad b1 a2 hb1 σ1) mwX4_kindsTold w836 rfl rfl ⟨rfl, rfl⟩ ⟨(Nat.le_of_ble_eq_true rfl), (Nat.le_of_ble_eq_true rfl)⟩ rfl rfl (Nat.le_of_ble_eq_true rfl) dX4_toldBack_62 (fun r13 σ13 hr13 => ?_)
      exact tr_iret C hr hlk dX4_toldBack_65
    · refine tr_ite (fun q5 => ?_) (fun q5 => ?_)
      · refine tr_tin C (k := 2) (tgt := 66) dX4_toldBack_12 q5 (by decide) (by decide) rfl (by decide) ?_
        refine tr_aload_n C (i := 0) dX4_toldBack_66 rfl rfl ?_
        refine tr_aload_n C (i := 1) dX4_toldBack_67 rfl rfl ?_
        refine tr_iload_n C (i := 2) dX4_toldBack_68 rfl rfl ?_
        refine tr_cVI C (av := [.ref (ad b1), .int a2]) (st := []) (kX4_numbersTold l g cs ad b1 a2 hb1 σ1) mwX4_numbersTold w840 rfl rfl ⟨rfl, rfl⟩ ⟨(Nat.le_of_ble_eq_true rfl), (Nat.le_of_ble_eq_true rfl)⟩ rfl rfl (Nat.le_of_ble_eq_true rfl) dX4_toldBack_69 (fun r12 σ12 hr12 => ?_)
        exact tr_iret C hr hlk dX4_toldBack_72
      · refine tr_ite (fun q6 => ?_) (fun q6 => ?_)
        · refine tr_tin C (k := 3) (tgt := 73) dX4_toldBack_12 q6 (by decide) (by decide) rfl (by decide) ?_
          refine tr_aload_n C (i := 0) dX4_toldBack_73 rfl rfl ?_
          refine tr_aload_n C (i := 1) dX4_toldBack_74 rfl rfl ?_
          refine tr_iload_n C (i := 2) dX4_toldBack_75 rfl rfl ?_
          refine tr_cVI C (av := [.ref (ad b1), .int a2]) (st := []) (kX4_weeksTold l g cs ad b1 a2 hb1 σ1) mwX4_weeksTold w844 rfl rfl ⟨rfl, rfl⟩ ⟨(Nat.le_of_ble_eq_true rfl), (Nat.le_of_ble_eq_true rfl)⟩ rfl rfl (Nat.le_of_ble_eq_true rfl) dX4_toldBack_76 (fun r11 σ11 hr11 => ?_)
          exact tr_iret C hr hlk dX4_toldBack_79
        · refine tr_ite (fun q7 => ?_) (fun q7 => ?_)
          · refine tr_tin C (k := 4) (tgt := 80) dX4_toldBack_12 q7 (by decide) (by decide) rfl (by decide) ?_
            refine tr_aload_n C (i := 0) dX4_toldBack_80 rfl rfl ?_
            refine tr_aload_n C (i := 1) dX4_toldBack_81 rfl rfl ?_
            refine tr_iload_n C (i := 2) dX4_toldBack_82 rfl rfl ?_
            refine tr_cVI C (av := [.ref (ad b1), .int a2]) (st := []) (kX4_leastWeekTold l g cs ad b1 a2 hb1 σ1) mwX4_leastWeekTold w848 rfl rfl ⟨rfl, rfl⟩ ⟨(Nat.le_of_ble_eq_true rfl), (Nat.le_of_ble_eq_true rfl)⟩ rfl rfl (Nat.le_of_ble_eq_true rfl) dX4_toldBack_83 (fun r10 σ10 hr10 => ?_)
            exact tr_iret C hr hlk dX4_toldBack_86
          · refine tr_ite (fun q8 => ?_) (fun q8 => ?_)
            · refine tr_tin C (k := 5) (tgt := 87) dX4_toldBack_12 q8 (by decide) (by decide) rfl (by decide) ?_
              refine tr_aload_n C (i := 0) dX4_toldBack_87 rfl rfl ?_
              refine tr_aload_n C (i := 1) dX4_toldBack_88 rfl rfl ?_
              refine tr_iload_n C (i := 2) dX4_toldBack_89 rfl rfl ?_
              refine tr_cVI C (av := [.ref (ad b1), .int a2]) (st := []) (kX4_textsTold l g cs ad b1 a2 hb1 σ1) mwX4_textsTold w852 rfl rfl ⟨rfl, rfl⟩ ⟨(Nat.le_of_ble_eq_true rfl), (Nat.le_of_ble_eq_true rfl)⟩ rfl rfl (Nat.le_of_ble_eq_true rfl) dX4_toldBack_90 (fun r9 σ9 hr9 => ?_)
              exact tr_iret C hr hlk dX4_toldBack_93
            · refine tr_tout C (tgt := 94) dX4_toldBack_12 (by have eq3 := neI (0) q3 (by decide); have eq4 := neI (1) q4 (by decide); have eq5 := neI (2) q5 (by decide); have eq6 := neI (3) q6 (by decide); have eq7 := neI (4) q7 (by decide); have eq8 := neI (5) q8 (by decide); omega) (by decide) ?_
              refine tr_aload_n C (i := 0) dX4_toldBack_94 rfl rfl ?_
              refine tr_aload_n C (i := 1) dX4_toldBack_95 rfl rfl ?_
              refine tr_cVI C (av := [.ref (ad b1)]) (st := []) (kX4_dustTold l g cs ad b1 hb1 σ1) mwX4_dustTold w856 rfl rfl ⟨rfl, rfl⟩ ⟨(Nat.le_of_ble_eq_true rfl), (Nat.le_of_ble_eq_true rfl)⟩ rfl rfl (Nat.le_of_ble_eq_true rfl) dX4_toldBack_96 (fun r2 σ2 hr2 => ?_)
              exact tr_iret C hr hlk dX4_toldBack_99
def fX4_tells (a1 : Int32) (a2 : Int32) (a3 : Int32) (σ : Mem) : Option (Int32 × Mem) :=
  bn1 (fX4_isSheet a1 σ) fun r1 => (
    if r1 = 0 then (
      some (-2, σ)
    ) else (
      bn1 (fX0_isIn 40 a2 σ) fun r2 => (
        if r2 = 0 then (
          some (-2, σ)
        ) else (
          bn1 (fX4_within a3 0 6 σ) fun r3 => (
            if r3 = 0 then (
              some (-2, σ)
            ) else (
              gd (inB a1 4) (
                bn1 (fX4_tellingRefused (32 + 2 * a1.toNatClampNeg) σ) fun r5 => (
                  if r5 = 0 then (
                    gd (inB a1 4) (
                      bnd (fX4_toldBack (32 + 2 * a1.toNatClampNeg) a2 a3 σ) fun r7 σ7 => (
                        some (r7, σ7)
                      )
                    )
                  ) else (
                    some (r5, σ)
                  )
                )
              )
            )
          )
        )
      )
    )
  )
set_option maxHeartbeats 4000000 in
set_option maxRecDepth 100000 in
theorem kX4_tells (l : Launch) (g : GG) (cs : CS) (ad : Nat → Nat) (a1 : Int32) (a2 : Int32) (a3 : Int32) (σ : Mem) : CtI l g cs ad (shC g) mX4_tells (.code mX4_tells cX4_tells 5 (some .int)) { frames := 6, cells := 0, slots := 0, locals := 141 } [.ref (ad 0), .int a1, .int a2, .int a3] σ (fX4_tells a1 a2 a3 σ) := by
  refine ctI_intro (own := "KinInTheHeap") (by decide +kernel) rfl [some (.ref (ad 0)), some (.int a1), some (.int a2), some (.int a3), none] (Nat.le_of_ble_eq_true rfl) rfl ?_
  intro p e s m args below meth c A C hr hlk
  refine tr_iload_n C (i := 1) dX4_tells_0 rfl rfl ?_
  refine tr_cSIP C (av := [.int a1]) (st := []) (kX4_isSheet l g cs ad a1 σ) mwX4_isSheet w673 ⟨rfl, rfl⟩ ⟨(Nat.le_of_ble_eq_true rfl), (Nat.le_of_ble_eq_true rfl)⟩ rfl rfl (Nat.le_of_ble_eq_true rfl) dX4_tells_1 (fun r1 hr1 => ?_)
  refine tr_if_eq C (tgt := 28) dX4_tells_4 (by decide) (fun q11 => ?_) (fun q11 => ?_)
  · refine tr_bipush C (v := -2) dX4_tells_28 (by decide) ?_
    exact tr_iret C hr hlk dX4_tells_30
  · refine tr_aload_n C (i := 0) dX4_tells_7 rfl rfl ?_
    refine tr_getR C (k := 3) (ci := 4) rfl rfl rfl inT4 rfl (by decide) w267 dX4_tells_8 ?_
    refine tr_iload_n C (i := 2) dX4_tells_11 rfl rfl ?_
    refine tr_cVIP C (av := [.int a2]) (st := []) (kX0_isIn l g cs ad 40 a2 fl40 σ) mwX0_isIn w363 (fl_0 fl40) rfl ⟨rfl, rfl⟩ ⟨(Nat.le_of_ble_eq_true rfl), (Nat.le_of_ble_eq_true rfl)⟩ rfl rfl (Nat.le_of_ble_eq_true rfl) dX4_tells_12 (fun r2 hr2 => ?_)
    refine tr_if_eq C (tgt := 28) dX4_tells_15 (by decide) (fun q10 => ?_) (fun q10 => ?_)
    · refine tr_bipush C (v := -2) dX4_tells_28 (by decide) ?_
      exact tr_iret C hr hlk dX4_tells_30
    · refine tr_iload_n C (i := 3) dX4_tells_18 rfl rfl ?_
      refine tr_iconst C (v := 0) dX4_tells_19 (by decide) ?_
      refine tr_bipush C (v := 6) dX4_tells_20 (by decide) ?_
      refine tr_cSIP C (av := [.int a3, .int 0, .int 6]) (st := []) (kX4_within l g cs ad a3 0 6 σ) mwX4_within w300 ⟨rfl, rfl⟩ ⟨(Nat.le_of_ble_eq_true rfl), (Nat.le_of_ble_eq_true rfl)⟩ rfl rfl (Nat.le_of_ble_eq_true rfl) dX4_tells_22 (fun r3 hr3 => ?_)
      refine tr_if_ne C (tgt := 31) dX4_tells_25 (by decide) (fun q9 => ?_) (fun q9 => ?_)
      · refine tr_bipush C (v := -2) dX4_tells_28 (by decide) ?_
        exact tr_iret C hr hlk dX4_tells_30
      · refine tr_aload_n C (i := 0) dX4_tells_31 rfl rfl ?_
        refine tr_getR C (k := 1) (ci := 4) rfl rfl rfl inT4 rfl (by decide) w265 dX4_tells_32 ?_
        refine tr_iload_n C (i := 1) dX4_tells_35 rfl rfl ?_
        refine tr_aald C (n := 4) (t0 := 3) (t := 32 + 2 * a1.toNatClampNeg) rfl rfl dX4_tells_36 rfl (fun h4 => ?_)
        refine tr_cSIP C (av := [.ref (ad (32 + 2 * a1.toNatClampNeg))]) (st := []) (kX4_tellingRefused l g cs ad (32 + 2 * a1.toNatClampNeg) (isSt_of (lt_of_in h4)) σ) mwX4_tellingRefused w825 ⟨rfl, rfl⟩ ⟨(Nat.le_of_ble_eq_true rfl), (Nat.le_of_ble_eq_true rfl)⟩ rfl rfl (Nat.le_of_ble_eq_true rfl) dX4_tells_37 (fun r5 hr5 => ?_)
        refine tr_istore C (i := 4) (lv' := [some (.ref (ad 0)), some (.int a1), some (.int a2), some (.int a3), some (.int r5)]) dX4_tells_40 (by decide) rfl ?_
        refine tr_iload C (i := 4) dX4_tells_42 rfl ?_
        refine tr_if_eq C (tgt := 52) dX4_tells_44 (by decide) (fun q8 => ?_) (fun q8 => ?_)
        · refine tr_aload_n C (i := 0) dX4_tells_52 rfl rfl ?_
          refine tr_aload_n C (i := 0) dX4_tells_53 rfl rfl ?_
          refine tr_getR C (k := 1) (ci := 4) rfl rfl rfl inT4 rfl (by decide) w265 dX4_tells_54 ?_
          refine tr_iload_n C (i := 1) dX4_tells_57 rfl rfl ?_
          refine tr_aald C (n := 4) (t0 := 3) (t := 32 + 2 * a1.toNatClampNeg) rfl rfl dX4_tells_58 rfl (fun h6 => ?_)
          refine tr_iload_n C (i := 2) dX4_tells_59 rfl rfl ?_
          refine tr_iload_n C (i := 3) dX4_tells_60 rfl rfl ?_
          refine tr_cVI C (av := [.ref (ad (32 + 2 * a1.toNatClampNeg)), .int a2, .int a3]) (st := []) (kX4_toldBack l g cs ad (32 + 2 * a1.toNatClampNeg) a2 a3 (isSt_of (lt_of_in h6)) σ) mwX4_toldBack w828 rfl rfl ⟨rfl, rfl⟩ ⟨(Nat.le_of_ble_eq_true rfl), (Nat.le_of_ble_eq_true rfl)⟩ rfl rfl (Nat.le_of_ble_eq_true rfl) dX4_tells_61 (fun r7 σ7 hr7 => ?_)
          exact tr_iret C hr hlk dX4_tells_64
        · refine tr_iload C (i := 4) dX4_tells_47 rfl ?_
          refine tr_goto C (tgt := 64) dX4_tells_49 (by decide) ?_
          exact tr_iret C hr hlk dX4_tells_64
def fX4_places_L50 (a1 : Int32) (a2 : Int32) (ih50 : Mem × Int64 × Int32 → Option (Int64 × Mem)) : Mem × Int64 × Int32 → Option (Int64 × Mem) := fun v => match v with
  | (σ50, y3_50, y5_50) =>
    if 36 ≤ y5_50 then (
      some (y3_50, σ50)
    ) else (
      gd (inB a2 8) (stp (wr σ50 55 a2 y5_50) fun σw6 => (
        gd (inB a1 4) (
          bnd (fX4_firstOtherwise (32 + 2 * a1.toNatClampNeg) a2 σw6) fun r8 σ8 => (
            if r8 = (-1) then (
              ih50 (σ8, y3_50 ||| (1 <<< (y5_50.toInt64 &&& 63)), y5_50 + 1)
            ) else (
              ih50 (σ8, y3_50, y5_50 + 1)
            )
          )
        )
      ))
    )
def fX4_places (a1 : Int32) (a2 : Int32) (σ : Mem) : Option (Int64 × Mem) :=
  bn1 (fX4_isSheet a1 σ) fun r1 => (
    if r1 = 0 then (
      some (-4611686018427387904, σ)
    ) else (
      bn1 (fX0_isIn 40 a2 σ) fun r2 => (
        if r2 = 0 then (
          some (-4611686018427387904, σ)
        ) else (
          gd (inB a1 4) (
            bn1 (fX4_tellingRefused (32 + 2 * a1.toNatClampNeg) σ) fun r4 => (
              if r4 = 0 then (
                bn1 (fX0_become 52 40 σ) fun σ5 => (
                  loopN (fX4_places_L50 a1 a2) 1000 (σ5, 0, 0)
                )
              ) else (
                some (-4611686018427387904, σ)
              )
            )
          )
        )
      )
    )
  )
set_option maxHeartbeats 4000000 in
set_option maxRecDepth 100000 in
theorem kX4_places (l : Launch) (g : GG) (cs : CS) (ad : Nat → Nat) (a1 : Int32) (a2 : Int32) (σ : Mem) : CtL l g cs ad (shC g) mX4_places (.code mX4_places cX4_places 6 (some .long)) { frames := 4, cells := 0, slots := 0, locals := 94 } [.ref (ad 0), .int a1, .int a2] σ (fX4_places a1 a2 σ) := by
  refine ctL_intro (own := "KinInTheHeap") (by decide +kernel) rfl [some (.ref (ad 0)), some (.int a1), some (.int a2), none, none, none] (Nat.le_of_ble_eq_true rfl) rfl ?_
  intro p e s m args below meth c A C hr hlk
  refine tr_iload_n C (i := 1) dX4_places_0 rfl rfl ?_
  refine tr_cSIP C (av := [.int a1]) (st := []) (kX4_isSheet l g cs ad a1 σ) mwX4_isSheet w673 ⟨rfl, rfl⟩ ⟨(Nat.le_of_ble_eq_true rfl), (Nat.le_of_ble_eq_true rfl)⟩ rfl rfl (Nat.le_of_ble_eq_true rfl) dX4_places_1 (fun r1 hr1 => ?_)
  refine tr_if_eq C (tgt := 30) dX4_places_4 (by decide) (fun q14 => ?_) (fun q14 => ?_)
  · refine tr_ldc2 C (v := -4611686018427387904) w742 dX4_places_30 ?_
    exact tr_lret C hr hlk dX4_places_33
  · refine tr_aload_n C (i := 0) dX4_places_7 rfl rfl ?_
    refine tr_getR C (k := 3) (ci := 4) rfl rfl rfl inT4 rfl (by decide) w267 dX4_places_8 ?_
    refine tr_iload_n C (i := 2) dX4_places_11 rfl rfl ?_
    refine tr_cVIP C (av := [.int a2]) (st := []) (kX0_isIn l g cs ad 40 a2 fl40 σ) mwX0_isIn w363 (fl_0 fl40) rfl ⟨rfl, rfl⟩ ⟨(Nat.le_of_ble_eq_true rfl), (Nat.le_of_ble_eq_true rfl)⟩ rfl rfl (Nat.le_of_ble_eq_true rfl) dX4_places_12 (fun r2 hr2 => ?_)
    refine tr_if_eq C (tgt := 30) dX4_places_15 (by decide) (fun q13 => ?_) (fun q13 => ?_)
    · refine tr_ldc2 C (v := -4611686018427387904) w742 dX4_places_30 ?_
      exact tr_lret C hr hlk dX4_places_33
    · refine tr_aload_n C (i := 0) dX4_places_18 rfl rfl ?_
      refine tr_getR C (k := 1) (ci := 4) rfl rfl rfl inT4 rfl (by decide) w265 dX4_places_19 ?_
      refine tr_iload_n C (i := 1) dX4_places_22 rfl rfl ?_
      refine tr_aald C (n := 4) (t0 := 3) (t := 32 + 2 * a1.toNatClampNeg) rfl rfl dX4_places_23 rfl (fun h3 => ?_)
      refine tr_cSIP C (av := [.ref (ad (32 + 2 * a1.toNatClampNeg))]) (st := []) (kX4_tellingRefused l g cs ad (32 + 2 * a1.toNatClampNeg) (isSt_of (lt_of_in h3)) σ) mwX4_tellingRefused w825 ⟨rfl, rfl⟩ ⟨(Nat.le_of_ble_eq_true rfl), (Nat.le_of_ble_eq_true rfl)⟩ rfl rfl (Nat.le_of_ble_eq_true rfl) dX4_places_24 (fun r4 hr4 => ?_)
      refine tr_if_eq C (tgt := 34) dX4_places_27 (by decide) (fun q12 => ?_) (fun q12 => ?_)
      · refine tr_aload_n C (i := 0) dX4_places_34 rfl rfl ?_
        refine tr_getR C (k := 5) (ci := 4) rfl rfl rfl inT4 rfl (by decide) w269 dX4_places_35 ?_
        refine tr_aload_n C (i := 0) dX4_places_38 rfl rfl ?_
        refine tr_getR C (k := 3) (ci := 4) rfl rfl rfl inT4 rfl (by decide) w267 dX4_places_39 ?_
        refine tr_cVV C (av := [.ref (ad 40)]) (st := []) (kX0_become l g cs ad 52 40 fl52 fl40 σ) mwX0_become w687 (fl_0 fl52) rfl ⟨rfl, rfl⟩ ⟨(Nat.le_of_ble_eq_true rfl), (Nat.le_of_ble_eq_true rfl)⟩ rfl rfl (Nat.le_of_ble_eq_true rfl) dX4_places_42 (fun σ5 hr5 => ?_)
        refine tr_lconst C (v := 0) dX4_places_45 (by decide) ?_
        refine tr_lstore_n C (i := 3) (lv' := [some (.ref (ad 0)), some (.int a1), some (.int a2), some (.long 0), none, none]) dX4_places_46 rfl (by decide) rfl ?_
        refine tr_iconst C (v := 0) dX4_places_47 (by decide) ?_
        refine tr_istore C (i := 5) (lv' := [some (.ref (ad 0)), some (.int a1), some (.int a2), some (.long 0), none, some (.int 0)]) dX4_places_48 (by decide) rfl ?_
        refine tr_loop (b := fX4_places_L50 a1 a2) (sg := fun v => v.1) (lw := fun v => [some (.ref (ad 0)), some (.int a1), some (.int a2), some (.long v.2.1), none, some (.int v.2.2)]) (sw := fun v => []) (fun ih50 IH50 v => ?_) 1000 (σ5, 0, 0)
        obtain ⟨σ50, y3_50, y5_50⟩ := v
        refine tr_st (σ' := σ50) (lv' := [some (.ref (ad 0)), some (.int a1), some (.int a2), some (.long y3_50), none, some (.int y5_50)]) (st' := []) rfl rfl rfl ?_
        refine tr_iload C (i := 5) dX4_places_50 rfl ?_
        refine tr_bipush C (v := 36) dX4_places_52 (by decide) ?_
        refine tr_icmp_ge C (tgt := 96) dX4_places_54 (by decide) (fun q11 => ?_) (fun q11 => ?_)
        · refine tr_lload_n C (i := 3) dX4_places_96 rfl rfl ?_
          exact tr_lret C hr hlk dX4_places_97
        · refine tr_aload_n C (i := 0) dX4_places_57 rfl rfl ?_
          refine tr_getR C (k := 5) (ci := 4) rfl rfl rfl inT4 rfl (by decide) w269 dX4_places_58 ?_
          refine tr_getR C (k := 2) (ci := 0) (fl_0 fl52) rfl rfl inT0 rfl (by decide) w227 dX4_places_61 ?_
          refine tr_iload_n C (i := 2) dX4_places_64 rfl rfl ?_
          refine tr_iload C (i := 5) dX4_places_65 rfl ?_
          refine tr_iast C (n := 8) (σ' := wr σ50 55 a2 y5_50) (fl_3 fl52) dX4_places_67 rfl (fun h10 => ?_)
          refine tr_stp (fun σw6 eσw6 => ?_)
          refine tr_aload_n C (i := 0) dX4_places_68 rfl rfl ?_
          refine tr_aload_n C (i := 0) dX4_places_69 rfl rfl ?_
          refine tr_getR C (k := 1) (ci := 4) rfl rfl rfl inT4 rfl (by decide) w265 dX4_places_70 ?_
          refine tr_iload_n C (i := 1) dX4_places_73 rfl rfl ?_
          refine tr_aald C (n := 4) (t0 := 3) (t := 32 + 2 * a1.toNatClampNeg) rfl rfl dX4_places_74 rfl (fun h7 => ?_)
          refine tr_iload_n C (i := 2) dX4_places_75 rfl rfl ?_
          refine tr_cVI C (av := [.ref (ad (32 + 2 * a1.toNatClampNeg)), .int a2]) (st := []) (kX4_firstOtherwise l g cs ad (32 + 2 * a1.toNatClampNeg) a2 (isSt_of (lt_of_in h7)) σw6) mwX4_firstOtherwise w832 rfl rfl ⟨rfl, rfl⟩ ⟨(Nat.le_of_ble_eq_true rfl), (Nat.le_of_ble_eq_true rfl)⟩ rfl rfl (Nat.le_of_ble_eq_true rfl) dX4_places_76 (fun r8 σ8 hr8 => ?_)
          refine tr_iconst C (v := -1) dX4_places_79 (by decide) ?_
          refine tr_icmp_ne C (tgt := 90) dX4_places_80 (by decide) (fun q9 => ?_) (fun q9 => ?_)
          · refine tr_lload_n C (i := 3) dX4_places_83 rfl rfl ?_
            refine tr_lconst C (v := 1) dX4_places_84 (by decide) ?_
            refine tr_iload C (i := 5) dX4_places_85 rfl ?_
            refine tr_lshl C dX4_places_87 ?_
            refine tr_lor C dX4_places_88 ?_
            refine tr_lstore_n C (i := 3) (lv' := [some (.ref (ad 0)), some (.int a1), some (.int a2), some (.long (y3_50 ||| (1 <<< (y5_50.toInt64 &&& 63)))), none, some (.int y5_50)]) dX4_places_89 rfl (by decide) rfl ?_
            refine tr_iinc C (i := 5) (d := 1) (lv' := [some (.ref (ad 0)), some (.int a1), some (.int a2), some (.long (y3_50 ||| (1 <<< (y5_50.toInt64 &&& 63)))), none, some (.int (y5_50 + 1))]) dX4_places_90 rfl (by decide) (by decide) rfl ?_
            refine tr_goto C (tgt := 50) dX4_places_93 (by decide) ?_
            exact IH50 (σ8, y3_50 ||| (1 <<< (y5_50.toInt64 &&& 63)), y5_50 + 1)
          · refine tr_iinc C (i := 5) (d := 1) (lv' := [some (.ref (ad 0)), some (.int a1), some (.int a2), some (.long y3_50), none, some (.int (y5_50 + 1))]) dX4_places_90 rfl (by decide) (by decide) rfl ?_
            refine tr_goto C (tgt := 50) dX4_places_93 (by decide) ?_
            exact IH50 (σ8, y3_50, y5_50 + 1)
      · refine tr_ldc2 C (v := -4611686018427387904) w742 dX4_places_30 ?_
        exact tr_lret C hr hlk dX4_places_33
def fX4_film_L49 (a1 : Int32) (a2 : Int32) (ih49 : Mem × Int32 × Int32 → Option (Int32 × Mem)) : Mem × Int32 × Int32 → Option (Int32 × Mem) := fun v => match v with
  | (σ49, y3_49, y4_49) =>
    if 10 ≤ y4_49 then (
      some (y3_49, σ49)
    ) else (
      stp (putI σ49 52 5 y4_49) fun σw6 => (
        bnd (fX0_far 52 a2 σw6) fun r7 σ7 => (
          gd (inB a1 4) (
            bnd (fX2_put (32 + 2 * a1.toNatClampNeg) y4_49 r7 σ7) fun r9 σ9 => (
              ih49 (σ9, y3_49 + r7, y4_49 + 1)
            )
          )
        )
      )
    )
def fX4_film (a1 : Int32) (a2 : Int32) (σ : Mem) : Option (Int32 × Mem) :=
  bn1 (fX4_isSheet a1 σ) fun r1 => (
    if r1 = 0 then (
      some (-2, σ)
    ) else (
      bn1 (fX0_isIn 40 a2 σ) fun r2 => (
        if r2 = 0 then (
          some (-2, σ)
        ) else (
          bn1 (fX0_become 52 40 σ) fun σ3 => (
            gd (inB a1 4) (
              bn1 (fX2_make (32 + 2 * a1.toNatClampNeg) 0 10 σ3) fun σ5 => (
                loopN (fX4_film_L49 a1 a2) 1000 (σ5, 0, 0)
              )
            )
          )
        )
      )
    )
  )
set_option maxHeartbeats 4000000 in
set_option maxRecDepth 100000 in
theorem kX4_film (l : Launch) (g : GG) (cs : CS) (ad : Nat → Nat) (a1 : Int32) (a2 : Int32) (σ : Mem) : CtI l g cs ad (shC g) mX4_film (.code mX4_film cX4_film 6 (some .int)) { frames := 3, cells := 0, slots := 0, locals := 89 } [.ref (ad 0), .int a1, .int a2] σ (fX4_film a1 a2 σ) := by
  refine ctI_intro (own := "KinInTheHeap") (by decide +kernel) rfl [some (.ref (ad 0)), some (.int a1), some (.int a2), none, none, none] (Nat.le_of_ble_eq_true rfl) rfl ?_
  intro p e s m args below meth c A C hr hlk
  refine tr_iload_n C (i := 1) dX4_film_0 rfl rfl ?_
  refine tr_cSIP C (av := [.int a1]) (st := []) (kX4_isSheet l g cs ad a1 σ) mwX4_isSheet w673 ⟨rfl, rfl⟩ ⟨(Nat.le_of_ble_eq_true rfl), (Nat.le_of_ble_eq_true rfl)⟩ rfl rfl (Nat.le_of_ble_eq_true rfl) dX4_film_1 (fun r1 hr1 => ?_)
  refine tr_if_eq C (tgt := 18) dX4_film_4 (by decide) (fun q12 => ?_) (fun q12 => ?_)
  · refine tr_bipush C (v := -2) dX4_film_18 (by decide) ?_
    exact tr_iret C hr hlk dX4_film_20
  · refine tr_aload_n C (i := 0) dX4_film_7 rfl rfl ?_
    refine tr_getR C (k := 3) (ci := 4) rfl rfl rfl inT4 rfl (by decide) w267 dX4_film_8 ?_
    refine tr_iload_n C (i := 2) dX4_film_11 rfl rfl ?_
    refine tr_cVIP C (av := [.int a2]) (st := []) (kX0_isIn l g cs ad 40 a2 fl40 σ) mwX0_isIn w363 (fl_0 fl40) rfl ⟨rfl, rfl⟩ ⟨(Nat.le_of_ble_eq_true rfl), (Nat.le_of_ble_eq_true rfl)⟩ rfl rfl (Nat.le_of_ble_eq_true rfl) dX4_film_12 (fun r2 hr2 => ?_)
    refine tr_if_ne C (tgt := 21) dX4_film_15 (by decide) (fun q11 => ?_) (fun q11 => ?_)
    · refine tr_bipush C (v := -2) dX4_film_18 (by decide) ?_
      exact tr_iret C hr hlk dX4_film_20
    · refine tr_aload_n C (i := 0) dX4_film_21 rfl rfl ?_
      refine tr_getR C (k := 5) (ci := 4) rfl rfl rfl inT4 rfl (by decide) w269 dX4_film_22 ?_
      refine tr_aload_n C (i := 0) dX4_film_25 rfl rfl ?_
      refine tr_getR C (k := 3) (ci := 4) rfl rfl rfl inT4 rfl (by decide) w267 dX4_film_26 ?_
      refine tr_cVV C (av := [.ref (ad 40)]) (st := []) (kX0_become l g cs ad 52 40 fl52 fl40 σ) mwX0_become w687 (fl_0 fl52) rfl ⟨rfl, rfl⟩ ⟨(Nat.le_of_ble_eq_true rfl), (Nat.le_of_ble_eq_true rfl)⟩ rfl rfl (Nat.le_of_ble_eq_true rfl) dX4_film_29 (fun σ3 hr3 => ?_)
      refine tr_aload_n C (i := 0) dX4_film_32 rfl rfl ?_
      refine tr_getR C (k := 1) (ci := 4) rfl rfl rfl inT4 rfl (by decide) w265 dX4_film_33 ?_
      refine tr_iload_n C (i := 1) dX4_film_36 rfl rfl ?_
      refine tr_aald C (n := 4) (t0 := 3) (t := 32 + 2 * a1.toNatClampNeg) rfl rfl dX4_film_37 rfl (fun h4 => ?_)
      refine tr_iconst C (v := 0) dX4_film_38 (by decide) ?_
      refine tr_bipush C (v := 10) dX4_film_39 (by decide) ?_
      refine tr_cVV C (av := [.int 0, .int 10]) (st := []) (kX2_make l g cs ad (32 + 2 * a1.toNatClampNeg) 0 10 (isSt_of (lt_of_in h4)) σ3) mwX2_make w868 (st_0 (isSt_of (lt_of_in h4))) rfl ⟨rfl, rfl⟩ ⟨(Nat.le_of_ble_eq_true rfl), (Nat.le_of_ble_eq_true rfl)⟩ rfl rfl (Nat.le_of_ble_eq_true rfl) dX4_film_41 (fun σ5 hr5 => ?_)
      refine tr_iconst C (v := 0) dX4_film_44 (by decide) ?_
      refine tr_istore_n C (i := 3) (lv' := [some (.ref (ad 0)), some (.int a1), some (.int a2), some (.int 0), none, none]) dX4_film_45 rfl (by decide) rfl ?_
      refine tr_iconst C (v := 0) dX4_film_46 (by decide) ?_
      refine tr_istore C (i := 4) (lv' := [some (.ref (ad 0)), some (.int a1), some (.int a2), some (.int 0), some (.int 0), none]) dX4_film_47 (by decide) rfl ?_
      refine tr_loop (b := fX4_film_L49 a1 a2) (sg := fun v => v.1) (lw := fun v => [some (.ref (ad 0)), some (.int a1), some (.int a2), some (.int v.2.1), some (.int v.2.2), none]) (sw := fun v => []) (fun ih49 IH49 v => ?_) 1000 (σ5, 0, 0)
      obtain ⟨σ49, y3_49, y4_49⟩ := v
      refine tr_st (σ' := σ49) (lv' := [some (.ref (ad 0)), some (.int a1), some (.int a2), some (.int y3_49), some (.int y4_49), none]) (st' := []) rfl rfl rfl ?_
      refine tr_iload C (i := 4) dX4_film_49 rfl ?_
      refine tr_bipush C (v := 10) dX4_film_51 (by decide) ?_
      refine tr_icmp_ge C (tgt := 100) dX4_film_53 (by decide) (fun q10 => ?_) (fun q10 => ?_)
      · refine tr_iload_n C (i := 3) dX4_film_100 rfl rfl ?_
        exact tr_iret C hr hlk dX4_film_101
      · refine tr_aload_n C (i := 0) dX4_film_56 rfl rfl ?_
        refine tr_getR C (k := 5) (ci := 4) rfl rfl rfl inT4 rfl (by decide) w269 dX4_film_57 ?_
        refine tr_iload C (i := 4) dX4_film_60 rfl ?_
        refine tr_putI C (k := 5) (ci := 0) (σ' := putI σ49 52 5 y4_49) (fl_0 fl52) rfl rfl inT0 rfl (by decide) tyX0 tyX0_ok nmX0 rfl rfl w233 dX4_film_62 rfl ?_
        refine tr_stp (fun σw6 eσw6 => ?_)
        refine tr_aload_n C (i := 0) dX4_film_65 rfl rfl ?_
        refine tr_getR C (k := 5) (ci := 4) rfl rfl rfl inT4 rfl (by decide) w269 dX4_film_66 ?_
        refine tr_iload_n C (i := 2) dX4_film_69 rfl rfl ?_
        refine tr_cVI C (av := [.int a2]) (st := []) (kX0_far l g cs ad 52 a2 fl52 σw6) mwX0_far w368 (fl_0 fl52) rfl ⟨rfl, rfl⟩ ⟨(Nat.le_of_ble_eq_true rfl), (Nat.le_of_ble_eq_true rfl)⟩ rfl rfl (Nat.le_of_ble_eq_true rfl) dX4_film_70 (fun r7 σ7 hr7 => ?_)
        refine tr_istore C (i := 5) (lv' := [some (.ref (ad 0)), some (.int a1), some (.int a2), some (.int y3_49), some (.int y4_49), some (.int r7)]) dX4_film_73 (by decide) rfl ?_
        refine tr_aload_n C (i := 0) dX4_film_75 rfl rfl ?_
        refine tr_getR C (k := 1) (ci := 4) rfl rfl rfl inT4 rfl (by decide) w265 dX4_film_76 ?_
        refine tr_iload_n C (i := 1) dX4_film_79 rfl rfl ?_
        refine tr_aald C (n := 4) (t0 := 3) (t := 32 + 2 * a1.toNatClampNeg) rfl rfl dX4_film_80 rfl (fun h8 => ?_)
        refine tr_iload C (i := 4) dX4_film_81 rfl ?_
        refine tr_iload C (i := 5) dX4_film_83 rfl ?_
        refine tr_cVI C (av := [.int y4_49, .int r7]) (st := []) (kX2_put l g cs ad (32 + 2 * a1.toNatClampNeg) y4_49 r7 (isSt_of (lt_of_in h8)) σ7) mwX2_put w874 (st_0 (isSt_of (lt_of_in h8))) rfl ⟨rfl, rfl⟩ ⟨(Nat.le_of_ble_eq_true rfl), (Nat.le_of_ble_eq_true rfl)⟩ rfl rfl (Nat.le_of_ble_eq_true rfl) dX4_film_85 (fun r9 σ9 hr9 => ?_)
        refine tr_pop C dX4_film_88 rfl ?_
        refine tr_iload_n C (i := 3) dX4_film_89 rfl rfl ?_
        refine tr_iload C (i := 5) dX4_film_90 rfl ?_
        refine tr_iadd C dX4_film_92 ?_
        refine tr_istore_n C (i := 3) (lv' := [some (.ref (ad 0)), some (.int a1), some (.int a2), some (.int (y3_49 + r7)), some (.int y4_49), some (.int r7)]) dX4_film_93 rfl (by decide) rfl ?_
        refine tr_iinc C (i := 4) (d := 1) (lv' := [some (.ref (ad 0)), some (.int a1), some (.int a2), some (.int (y3_49 + r7)), some (.int (y4_49 + 1)), some (.int r7)]) dX4_film_94 rfl (by decide) (by decide) rfl ?_
        refine tr_goto C (tgt := 49) dX4_film_97 (by decide) ?_
        refine tr_mask [true, true, true, true, true, false] rfl ?_
        exact IH49 (σ9, y3_49 + r7, y4_49 + 1)
def fX4_outByDrawn_L16 (a1 : Int32) (a2 : Int32) (ih16 : Mem × Int32 × Int32 → Option (Int32 × Mem)) : Mem × Int32 × Int32 → Option (Int32 × Mem) := fun v => match v with
  | (σ16, y3_16, y4_16) =>
    if a2 ≤ y4_16 then (
      bn1 (fX0_outs 52 σ16) fun r2 => (
        some (r2, σ16)
      )
    ) else (
      bnd (fX0_brush 52 (((((y3_16 * 1103515245) + 12345).toUInt32 >>> ((9 : Int32).toUInt32 &&& Int32.toUInt32 31)).toInt32) - ((((y3_16 * 1103515245) + 12345).toUInt32 >>> ((9 : Int32).toUInt32 &&& Int32.toUInt32 31)).toInt32) / 24 * 24) σ16) fun r3 σ3 => (
        ih16 (σ3, (y3_16 * 1103515245) + 12345, y4_16 + 1)
      )
    )
def fX4_outByDrawn (a1 : Int32) (a2 : Int32) (σ : Mem) : Option (Int32 × Mem) :=
  bn1 (fX0_become 52 40 σ) fun σ1 => (
    loopN (fX4_outByDrawn_L16 a1 a2) 1000 (σ1, a1, 0)
  )
set_option maxHeartbeats 4000000 in
set_option maxRecDepth 100000 in
theorem kX4_outByDrawn (l : Launch) (g : GG) (cs : CS) (ad : Nat → Nat) (a1 : Int32) (a2 : Int32) (σ : Mem) : CtI l g cs ad (shC g) mX4_outByDrawn (.code mX4_outByDrawn cX4_outByDrawn 5 (some .int)) { frames := 4, cells := 0, slots := 0, locals := 94 } [.ref (ad 0), .int a1, .int a2] σ (fX4_outByDrawn a1 a2 σ) := by
  refine ctI_intro (own := "KinInTheHeap") (by decide +kernel) rfl [some (.ref (ad 0)), some (.int a1), some (.int a2), none, none] (Nat.le_of_ble_eq_true rfl) rfl ?_
  intro p e s m args below meth c A C hr hlk
  refine tr_aload_n C (i := 0) dX4_outByDrawn_0 rfl rfl ?_
  refine tr_getR C (k := 5) (ci := 4) rfl rfl rfl inT4 rfl (by decide) w269 dX4_outByDrawn_1 ?_
  refine tr_aload_n C (i := 0) dX4_outByDrawn_4 rfl rfl ?_
  refine tr_getR C (k := 3) (ci := 4) rfl rfl rfl inT4 rfl (by decide) w267 dX4_outByDrawn_5 ?_
  refine tr_cVV C (av := [.ref (ad 40)]) (st := []) (kX0_become l g cs ad 52 40 fl52 fl40 σ) mwX0_become w687 (fl_0 fl52) rfl ⟨rfl, rfl⟩ ⟨(Nat.le_of_ble_eq_true rfl), (Nat.le_of_ble_eq_true rfl)⟩ rfl rfl (Nat.le_of_ble_eq_true rfl) dX4_outByDrawn_8 (fun σ1 hr1 => ?_)
  refine tr_iload_n C (i := 1) dX4_outByDrawn_11 rfl rfl ?_
  refine tr_istore_n C (i := 3) (lv' := [some (.ref (ad 0)), some (.int a1), some (.int a2), some (.int a1), none]) dX4_outByDrawn_12 rfl (by decide) rfl ?_
  refine tr_iconst C (v := 0) dX4_outByDrawn_13 (by decide) ?_
  refine tr_istore C (i := 4) (lv' := [some (.ref (ad 0)), some (.int a1), some (.int a2), some (.int a1), some (.int 0)]) dX4_outByDrawn_14 (by decide) rfl ?_
  refine tr_mask [true, false, true, true, true] rfl ?_
  refine tr_loop (b := fX4_outByDrawn_L16 a1 a2) (sg := fun v => v.1) (lw := fun v => [some (.ref (ad 0)), none, some (.int a2), some (.int v.2.1), some (.int v.2.2)]) (sw := fun v => []) (fun ih16 IH16 v => ?_) 1000 (σ1, a1, 0)
  obtain ⟨σ16, y3_16, y4_16⟩ := v
  refine tr_st (σ' := σ16) (lv' := [some (.ref (ad 0)), none, some (.int a2), some (.int y3_16), some (.int y4_16)]) (st' := []) rfl rfl rfl ?_
  refine tr_iload C (i := 4) dX4_outByDrawn_16 rfl ?_
  refine tr_iload_n C (i := 2) dX4_outByDrawn_18 rfl rfl ?_
  refine tr_icmp_ge C (tgt := 53) dX4_outByDrawn_19 (by decide) (fun q4 => ?_) (fun q4 => ?_)
  · refine tr_aload_n C (i := 0) dX4_outByDrawn_53 rfl rfl ?_
    refine tr_getR C (k := 5) (ci := 4) rfl rfl rfl inT4 rfl (by decide) w269 dX4_outByDrawn_54 ?_
    refine tr_cVIP C (av := []) (st := []) (kX0_outs l g cs ad 52 fl52 σ16) mwX0_outs w783 (fl_0 fl52) rfl ⟨rfl, rfl⟩ ⟨(Nat.le_of_ble_eq_true rfl), (Nat.le_of_ble_eq_true rfl)⟩ rfl rfl (Nat.le_of_ble_eq_true rfl) dX4_outByDrawn_57 (fun r2 hr2 => ?_)
    exact tr_iret C hr hlk dX4_outByDrawn_60
  · refine tr_iload_n C (i := 3) dX4_outByDrawn_22 rfl rfl ?_
    refine tr_ldcw C (v := 1103515245) w886 dX4_outByDrawn_23 ?_
    refine tr_imul C dX4_outByDrawn_26 ?_
    refine tr_sipush C (v := 12345) dX4_outByDrawn_27 (by decide) ?_
    refine tr_iadd C dX4_outByDrawn_30 ?_
    refine tr_istore_n C (i := 3) (lv' := [some (.ref (ad 0)), none, some (.int a2), some (.int ((y3_16 * 1103515245) + 12345)), some (.int y4_16)]) dX4_outByDrawn_31 rfl (by decide) rfl ?_
    refine tr_aload_n C (i := 0) dX4_outByDrawn_32 rfl rfl ?_
    refine tr_getR C (k := 5) (ci := 4) rfl rfl rfl inT4 rfl (by decide) w269 dX4_outByDrawn_33 ?_
    refine tr_iload_n C (i := 3) dX4_outByDrawn_36 rfl rfl ?_
    refine tr_bipush C (v := 9) dX4_outByDrawn_37 (by decide) ?_
    refine tr_iushr C dX4_outByDrawn_39 ?_
    refine tr_bipush C (v := 24) dX4_outByDrawn_40 (by decide) ?_
    refine tr_iremK C dX4_outByDrawn_42 (by decide) ?_
    refine tr_cVI C (av := [.int (((((y3_16 * 1103515245) + 12345).toUInt32 >>> ((9 : Int32).toUInt32 &&& Int32.toUInt32 31)).toInt32) - ((((y3_16 * 1103515245) + 12345).toUInt32 >>> ((9 : Int32).toUInt32 &&& Int32.toUInt32 31)).toInt32) / 24 * 24)]) (st := []) (kX0_brush l g cs ad 52 (((((y3_16 * 1103515245) + 12345).toUInt32 >>> ((9 : Int32).toUInt32 &&& Int32.toUInt32 31)).toInt32) - ((((y3_16 * 1103515245) + 12345).toUInt32 >>> ((9 : Int32).toUInt32 &&& Int32.toUInt32 31)).toInt32) / 24 * 24) fl52 σ16) mwX0_brush w639 (fl_0 fl52) rfl ⟨rfl, rfl⟩ ⟨(Nat.le_of_ble_eq_true rfl), (Nat.le_of_ble_eq_true rfl)⟩ rfl rfl (Nat.le_of_ble_eq_true rfl) dX4_outByDrawn_43 (fun r3 σ3 hr3 => ?_)
    refine tr_pop C dX4_outByDrawn_46 rfl ?_
    refine tr_iinc C (i := 4) (d := 1) (lv' := [some (.ref (ad 0)), none, some (.int a2), some (.int ((y3_16 * 1103515245) + 12345)), some (.int (y4_16 + 1))]) dX4_outByDrawn_47 rfl (by decide) (by decide) rfl ?_
    refine tr_goto C (tgt := 16) dX4_outByDrawn_50 (by decide) ?_
    exact IH16 (σ3, (y3_16 * 1103515245) + 12345, y4_16 + 1)
def fX4_drawn (a1 : Int32) (a2 : Int32) (σ : Mem) : Option (Int32 × Mem) :=
  bn1 (fX4_within a2 0 40 σ) fun r1 => (
    if r1 = 0 then (
      some (-2, σ)
    ) else (
      bnd (fX4_outByDrawn a1 a2 σ) fun r2 σ2 => (
        some (r2, σ2)
      )
    )
  )
set_option maxHeartbeats 4000000 in
set_option maxRecDepth 100000 in
theorem kX4_drawn (l : Launch) (g : GG) (cs : CS) (ad : Nat → Nat) (a1 : Int32) (a2 : Int32) (σ : Mem) : CtI l g cs ad (shC g) mX4_drawn (.code mX4_drawn cX4_drawn 3 (some .int)) { frames := 5, cells := 0, slots := 0, locals := 118 } [.ref (ad 0), .int a1, .int a2] σ (fX4_drawn a1 a2 σ) := by
  refine ctI_intro (own := "KinInTheHeap") (by decide +kernel) rfl [some (.ref (ad 0)), some (.int a1), some (.int a2)] (Nat.le_of_ble_eq_true rfl) rfl ?_
  intro p e s m args below meth c A C hr hlk
  refine tr_iload_n C (i := 2) dX4_drawn_0 rfl rfl ?_
  refine tr_iconst C (v := 0) dX4_drawn_1 (by decide) ?_
  refine tr_bipush C (v := 40) dX4_drawn_2 (by decide) ?_
  refine tr_cSIP C (av := [.int a2, .int 0, .int 40]) (st := []) (kX4_within l g cs ad a2 0 40 σ) mwX4_within w300 ⟨rfl, rfl⟩ ⟨(Nat.le_of_ble_eq_true rfl), (Nat.le_of_ble_eq_true rfl)⟩ rfl rfl (Nat.le_of_ble_eq_true rfl) dX4_drawn_4 (fun r1 hr1 => ?_)
  refine tr_if_eq C (tgt := 19) dX4_drawn_7 (by decide) (fun q3 => ?_) (fun q3 => ?_)
  · refine tr_bipush C (v := -2) dX4_drawn_19 (by decide) ?_
    exact tr_iret C hr hlk dX4_drawn_21
  · refine tr_aload_n C (i := 0) dX4_drawn_10 rfl rfl ?_
    refine tr_iload_n C (i := 1) dX4_drawn_11 rfl rfl ?_
    refine tr_iload_n C (i := 2) dX4_drawn_12 rfl rfl ?_
    refine tr_cVI C (av := [.int a1, .int a2]) (st := []) (kX4_outByDrawn l g cs ad a1 a2 σ) mwX4_outByDrawn w882 rfl rfl ⟨rfl, rfl⟩ ⟨(Nat.le_of_ble_eq_true rfl), (Nat.le_of_ble_eq_true rfl)⟩ rfl rfl (Nat.le_of_ble_eq_true rfl) dX4_drawn_13 (fun r2 σ2 hr2 => ?_)
    refine tr_goto C (tgt := 21) dX4_drawn_16 (by decide) ?_
    exact tr_iret C hr hlk dX4_drawn_21
def fX4_chance_b59 (a1 : Int32) (a2 : Int32) (a3 : Int32) (a4 : Int32) (σ59 : Mem) (y5_59 : Int32) : Option (Int64 × Mem) :=
  bn1 (fX4_lowest y5_59 a2 a4 σ59) fun r3 => (
    some (r3, σ59)
  )
def fX4_chance_L30 (a1 : Int32) (a2 : Int32) (a3 : Int32) (a4 : Int32) (ih30 : Mem × Int32 × Int32 → Option (Int64 × Mem)) : Mem × Int32 × Int32 → Option (Int64 × Mem) := fun v => match v with
  | (σ30, y5_30, y6_30) =>
    if a2 ≤ y6_30 then (
      fX4_chance_b59 a1 a2 a3 a4 σ30 y5_30
    ) else (
      bnd (fX4_outByDrawn (a1 + y6_30) 6 σ30) fun r4 σ4 => (
        if a3 < r4 then (
          ih30 (σ4, y5_30, y6_30 + 1)
        ) else (
          ih30 (σ4, y5_30 + 1, y6_30 + 1)
        )
      )
    )
def fX4_chance (a1 : Int32) (a2 : Int32) (a3 : Int32) (a4 : Int32) (σ : Mem) : Option (Int64 × Mem) :=
  bn1 (fX4_within a2 1 20 σ) fun r1 => (
    if r1 = 0 then (
      some (-4611686018427387904, σ)
    ) else (
      bn1 (fX4_within a3 0 8 σ) fun r2 => (
        if r2 = 0 then (
          some (-4611686018427387904, σ)
        ) else (
          loopN (fX4_chance_L30 a1 a2 a3 a4) 1000 (σ, 0, 0)
        )
      )
    )
  )
set_option maxHeartbeats 4000000 in
set_option maxRecDepth 100000 in
theorem kX4_chance (l : Launch) (g : GG) (cs : CS) (ad : Nat → Nat) (a1 : Int32) (a2 : Int32) (a3 : Int32) (a4 : Int32) (σ : Mem) : CtL l g cs ad (shC g) mX4_chance (.code mX4_chance cX4_chance 7 (some .long)) { frames := 5, cells := 0, slots := 0, locals := 118 } [.ref (ad 0), .int a1, .int a2, .int a3, .int a4] σ (fX4_chance a1 a2 a3 a4 σ) := by
  refine ctL_intro (own := "KinInTheHeap") (by decide +kernel) rfl [some (.ref (ad 0)), some (.int a1), some (.int a2), some (.int a3), some (.int a4), none, none] (Nat.le_of_ble_eq_true rfl) rfl ?_
  intro p e s m args below meth c A C hr hlk
  refine tr_iload_n C (i := 2) dX4_chance_0 rfl rfl ?_
  refine tr_iconst C (v := 1) dX4_chance_1 (by decide) ?_
  refine tr_bipush C (v := 20) dX4_chance_2 (by decide) ?_
  refine tr_cSIP C (av := [.int a2, .int 1, .int 20]) (st := []) (kX4_within l g cs ad a2 1 20 σ) mwX4_within w300 ⟨rfl, rfl⟩ ⟨(Nat.le_of_ble_eq_true rfl), (Nat.le_of_ble_eq_true rfl)⟩ rfl rfl (Nat.le_of_ble_eq_true rfl) dX4_chance_4 (fun r1 hr1 => ?_)
  refine tr_if_eq C (tgt := 20) dX4_chance_7 (by decide) (fun q8 => ?_) (fun q8 => ?_)
  · refine tr_ldc2 C (v := -4611686018427387904) w742 dX4_chance_20 ?_
    exact tr_lret C hr hlk dX4_chance_23
  · refine tr_iload_n C (i := 3) dX4_chance_10 rfl rfl ?_
    refine tr_iconst C (v := 0) dX4_chance_11 (by decide) ?_
    refine tr_bipush C (v := 8) dX4_chance_12 (by decide) ?_
    refine tr_cSIP C (av := [.int a3, .int 0, .int 8]) (st := []) (kX4_within l g cs ad a3 0 8 σ) mwX4_within w300 ⟨rfl, rfl⟩ ⟨(Nat.le_of_ble_eq_true rfl), (Nat.le_of_ble_eq_true rfl)⟩ rfl rfl (Nat.le_of_ble_eq_true rfl) dX4_chance_14 (fun r2 hr2 => ?_)
    refine tr_if_ne C (tgt := 24) dX4_chance_17 (by decide) (fun q7 => ?_) (fun q7 => ?_)
    · refine tr_ldc2 C (v := -4611686018427387904) w742 dX4_chance_20 ?_
      exact tr_lret C hr hlk dX4_chance_23
    · refine tr_iconst C (v := 0) dX4_chance_24 (by decide) ?_
      refine tr_istore C (i := 5) (lv' := [some (.ref (ad 0)), some (.int a1), some (.int a2), some (.int a3), some (.int a4), some (.int 0), none]) dX4_chance_25 (by decide) rfl ?_
      refine tr_iconst C (v := 0) dX4_chance_27 (by decide) ?_
      refine tr_istore C (i := 6) (lv' := [some (.ref (ad 0)), some (.int a1), some (.int a2), some (.int a3), some (.int a4), some (.int 0), some (.int 0)]) dX4_chance_28 (by decide) rfl ?_
      refine tr_loop (b := fX4_chance_L30 a1 a2 a3 a4) (sg := fun v => v.1) (lw := fun v => [some (.ref (ad 0)), some (.int a1), some (.int a2), some (.int a3), some (.int a4), some (.int v.2.1), some (.int v.2.2)]) (sw := fun v => []) (fun ih30 IH30 v => ?_) 1000 (σ, 0, 0)
      obtain ⟨σ30, y5_30, y6_30⟩ := v
      refine tr_st (σ' := σ30) (lv' := [some (.ref (ad 0)), some (.int a1), some (.int a2), some (.int a3), some (.int a4), some (.int y5_30), some (.int y6_30)]) (st' := []) rfl rfl rfl ?_
      refine tr_iload C (i := 6) dX4_chance_30 rfl ?_
      refine tr_iload_n C (i := 2) dX4_chance_32 rfl rfl ?_
      have B59 : ∀ (σ59 : Mem) (y5_59 : Int32), Tr p l e { frames := 5, cells := 0, slots := 0, locals := 118 } s m args below meth c g ad (shC g) A 7 (QL g ad (shC g) A below args s) (fX4_chance_b59 a1 a2 a3 a4 σ59 y5_59) σ59 59 [none, none, some (.int a2), none, some (.int a4), some (.int y5_59), none] [] := by
        intro σ59 y5_59
        refine tr_iload C (i := 5) dX4_chance_59 rfl ?_
        refine tr_iload_n C (i := 2) dX4_chance_61 rfl rfl ?_
        refine tr_iload C (i := 4) dX4_chance_62 rfl ?_
        refine tr_cSLP C (av := [.int y5_59, .int a2, .int a4]) (st := []) (kX4_lowest l g cs ad y5_59 a2 a4 σ59) mwX4_lowest w818 ⟨rfl, rfl⟩ ⟨(Nat.le_of_ble_eq_true rfl), (Nat.le_of_ble_eq_true rfl)⟩ rfl rfl (Nat.le_of_ble_eq_true rfl) dX4_chance_64 (fun r3 hr3 => ?_)
        exact tr_lret C hr hlk dX4_chance_67
      refine tr_icmp_ge C (tgt := 59) dX4_chance_33 (by decide) (fun q6 => ?_) (fun q6 => ?_)
      · refine tr_mask [false, false, true, false, true, true, false] rfl ?_
        exact B59 σ30 y5_30
      · refine tr_aload_n C (i := 0) dX4_chance_36 rfl rfl ?_
        refine tr_iload_n C (i := 1) dX4_chance_37 rfl rfl ?_
        refine tr_iload C (i := 6) dX4_chance_38 rfl ?_
        refine tr_iadd C dX4_chance_40 ?_
        refine tr_bipush C (v := 6) dX4_chance_41 (by decide) ?_
        refine tr_cVI C (av := [.int (a1 + y6_30), .int 6]) (st := []) (kX4_outByDrawn l g cs ad (a1 + y6_30) 6 σ30) mwX4_outByDrawn w882 rfl rfl ⟨rfl, rfl⟩ ⟨(Nat.le_of_ble_eq_true rfl), (Nat.le_of_ble_eq_true rfl)⟩ rfl rfl (Nat.le_of_ble_eq_true rfl) dX4_chance_43 (fun r4 σ4 hr4 => ?_)
        refine tr_iload_n C (i := 3) dX4_chance_46 rfl rfl ?_
        refine tr_icmp_gt C (tgt := 53) dX4_chance_47 (by decide) (fun q5 => ?_) (fun q5 => ?_)
        · refine tr_iinc C (i := 6) (d := 1) (lv' := [some (.ref (ad 0)), some (.int a1), some (.int a2), some (.int a3), some (.int a4), some (.int y5_30), some (.int (y6_30 + 1))]) dX4_chance_53 rfl (by decide) (by decide) rfl ?_
          refine tr_goto C (tgt := 30) dX4_chance_56 (by decide) ?_
          exact IH30 (σ4, y5_30, y6_30 + 1)
        · refine tr_iinc C (i := 5) (d := 1) (lv' := [some (.ref (ad 0)), some (.int a1), some (.int a2), some (.int a3), some (.int a4), some (.int (y5_30 + 1)), some (.int y6_30)]) dX4_chance_50 rfl (by decide) (by decide) rfl ?_
          refine tr_iinc C (i := 6) (d := 1) (lv' := [some (.ref (ad 0)), some (.int a1), some (.int a2), some (.int a3), some (.int a4), some (.int (y5_30 + 1)), some (.int (y6_30 + 1))]) dX4_chance_53 rfl (by decide) (by decide) rfl ?_
          refine tr_goto C (tgt := 30) dX4_chance_56 (by decide) ?_
          exact IH30 (σ4, y5_30 + 1, y6_30 + 1)
def fX4_image (σ : Mem) : Option (Int32 × Mem) :=
  bn1 (fX0_become 46 40 σ) fun σ1 => (
    stp (putI σ1 0 8 1) fun σw2 => (
      some (σw2.1 40 7, σw2)
    )
  )
set_option maxHeartbeats 4000000 in
set_option maxRecDepth 100000 in
theorem kX4_image (l : Launch) (g : GG) (cs : CS) (ad : Nat → Nat) (σ : Mem) : CtI l g cs ad (shC g) mX4_image (.code mX4_image cX4_image 1 (some .int)) { frames := 2, cells := 0, slots := 0, locals := 89 } [.ref (ad 0)] σ (fX4_image σ) := by
  refine ctI_intro (own := "KinInTheHeap") (by decide +kernel) rfl [some (.ref (ad 0))] (Nat.le_of_ble_eq_true rfl) rfl ?_
  intro p e s m args below meth c A C hr hlk
  refine tr_aload_n C (i := 0) dX4_image_0 rfl rfl ?_
  refine tr_getR C (k := 4) (ci := 4) rfl rfl rfl inT4 rfl (by decide) w268 dX4_image_1 ?_
  refine tr_aload_n C (i := 0) dX4_image_4 rfl rfl ?_
  refine tr_getR C (k := 3) (ci := 4) rfl rfl rfl inT4 rfl (by decide) w267 dX4_image_5 ?_
  refine tr_cVV C (av := [.ref (ad 40)]) (st := []) (kX0_become l g cs ad 46 40 fl46 fl40 σ) mwX0_become w687 (fl_0 fl46) rfl ⟨rfl, rfl⟩ ⟨(Nat.le_of_ble_eq_true rfl), (Nat.le_of_ble_eq_true rfl)⟩ rfl rfl (Nat.le_of_ble_eq_true rfl) dX4_image_8 (fun σ1 hr1 => ?_)
  refine tr_aload_n C (i := 0) dX4_image_11 rfl rfl ?_
  refine tr_iconst C (v := 1) dX4_image_12 (by decide) ?_
  refine tr_putZ C (k := 8) (ci := 4) (σ' := putI σ1 0 8 1) rfl rfl rfl inT4 rfl (by decide) tyX4 tyX4_ok nmX4 rfl rfl rfl w272 dX4_image_13 rfl ?_
  refine tr_stp (fun σw2 eσw2 => ?_)
  refine tr_aload_n C (i := 0) dX4_image_16 rfl rfl ?_
  refine tr_getR C (k := 3) (ci := 4) rfl rfl rfl inT4 rfl (by decide) w267 dX4_image_17 ?_
  refine tr_getI C (k := 7) (ci := 0) (fl_0 fl40) rfl rfl inT0 rfl (by decide) w237 dX4_image_20 ?_
  exact tr_iret C hr hlk dX4_image_23
def fX4_back (σ : Mem) : Option (Int32 × Mem) :=
  if (σ.1 0 8) = 0 then (
    some (-3, σ)
  ) else (
    bn1 (fX0_become 40 46 σ) fun σ1 => (
      some (σ1.1 40 7, σ1)
    )
  )
set_option maxHeartbeats 4000000 in
set_option maxRecDepth 100000 in
theorem kX4_back (l : Launch) (g : GG) (cs : CS) (ad : Nat → Nat) (σ : Mem) : CtI l g cs ad (shC g) mX4_back (.code mX4_back cX4_back 1 (some .int)) { frames := 2, cells := 0, slots := 0, locals := 89 } [.ref (ad 0)] σ (fX4_back σ) := by
  refine ctI_intro (own := "KinInTheHeap") (by decide +kernel) rfl [some (.ref (ad 0))] (Nat.le_of_ble_eq_true rfl) rfl ?_
  intro p e s m args below meth c A C hr hlk
  refine tr_aload_n C (i := 0) dX4_back_0 rfl rfl ?_
  refine tr_getI C (k := 8) (ci := 4) rfl rfl rfl inT4 rfl (by decide) w272 dX4_back_1 ?_
  refine tr_if_ne C (tgt := 10) dX4_back_4 (by decide) (fun q2 => ?_) (fun q2 => ?_)
  · refine tr_bipush C (v := -3) dX4_back_7 (by decide) ?_
    exact tr_iret C hr hlk dX4_back_9
  · refine tr_aload_n C (i := 0) dX4_back_10 rfl rfl ?_
    refine tr_getR C (k := 3) (ci := 4) rfl rfl rfl inT4 rfl (by decide) w267 dX4_back_11 ?_
    refine tr_aload_n C (i := 0) dX4_back_14 rfl rfl ?_
    refine tr_getR C (k := 4) (ci := 4) rfl rfl rfl inT4 rfl (by decide) w268 dX4_back_15 ?_
    refine tr_cVV C (av := [.ref (ad 46)]) (st := []) (kX0_become l g cs ad 40 46 fl40 fl46 σ) mwX0_become w687 (fl_0 fl40) rfl ⟨rfl, rfl⟩ ⟨(Nat.le_of_ble_eq_true rfl), (Nat.le_of_ble_eq_true rfl)⟩ rfl rfl (Nat.le_of_ble_eq_true rfl) dX4_back_18 (fun σ1 hr1 => ?_)
    refine tr_aload_n C (i := 0) dX4_back_21 rfl rfl ?_
    refine tr_getR C (k := 3) (ci := 4) rfl rfl rfl inT4 rfl (by decide) w267 dX4_back_22 ?_
    refine tr_getI C (k := 7) (ci := 0) (fl_0 fl40) rfl rfl inT0 rfl (by decide) w237 dX4_back_25 ?_
    exact tr_iret C hr hlk dX4_back_28
def fX4_count (a1 : Int32) (σ : Mem) : Option (Int32) :=
  if a1 = 0 then (
    some (σ.1 40 7)
  ) else (
    if a1 = 1 then (
      bn1 (fJ13_bitCount_95d88 (σ.2 40 3) σ) fun r7 => (
        some r7
      )
    ) else (
      if a1 = 2 then (
        some (σ.1 40 4)
      ) else (
        if a1 = 3 then (
          some (σ.1 0 7)
        ) else (
          if a1 = 4 then (
            some (σ.1 3 0)
          ) else (
            if a1 = 5 then (
              some (σ.1 40 6)
            ) else (
              some (-2)
            )
          )
        )
      )
    )
  )
set_option maxHeartbeats 4000000 in
set_option maxRecDepth 100000 in
theorem kX4_count (l : Launch) (g : GG) (cs : CS) (ad : Nat → Nat) (a1 : Int32) (σ : Mem) : CtI l g cs ad (shC g) mX4_count (.code mX4_count cX4_count 2 (some .int)) { frames := 1, cells := 0, slots := 0, locals := 21 } [.ref (ad 0), .int a1] σ (pur (fX4_count a1 σ) σ) := by
  refine ctIP_intro (own := "KinInTheHeap") (by decide +kernel) rfl [some (.ref (ad 0)), some (.int a1)] (Nat.le_of_ble_eq_true rfl) rfl ?_
  intro p e s m args below meth c A C hr hlk
  refine tr_iload_n C (i := 1) dX4_count_0 rfl rfl ?_
  refine tr_ite (fun q1 => ?_) (fun q1 => ?_)
  · refine tr_tin C (k := 0) (tgt := 40) dX4_count_1 q1 (by decide) (by decide) rfl (by decide) ?_
    refine tr_aload_n C (i := 0) dX4_count_40 rfl rfl ?_
    refine tr_getR C (k := 3) (ci := 4) rfl rfl rfl inT4 rfl (by decide) w267 dX4_count_41 ?_
    refine tr_getI C (k := 7) (ci := 0) (fl_0 fl40) rfl rfl inT0 rfl (by decide) w237 dX4_count_44 ?_
    exact tr_iretP C hr hlk dX4_count_47
  · refine tr_ite (fun q2 => ?_) (fun q2 => ?_)
    · refine tr_tin C (k := 1) (tgt := 48) dX4_count_1 q2 (by decide) (by decide) rfl (by decide) ?_
      refine tr_aload_n C (i := 0) dX4_count_48 rfl rfl ?_
      refine tr_getR C (k := 3) (ci := 4) rfl rfl rfl inT4 rfl (by decide) w267 dX4_count_49 ?_
      refine tr_getL C (k := 3) (ci := 0) (fl_0 fl40) rfl rfl inT0 rfl (by decide) w229 dX4_count_52 ?_
      refine tr_cSIP C (av := [.long (σ.2 40 3)]) (st := []) (kJ13_bitCount_95d88 l g cs ad (σ.2 40 3) σ) mwJ13_bitCount_95d88 w903 ⟨rfl, rfl⟩ ⟨(Nat.le_of_ble_eq_true rfl), (Nat.le_of_ble_eq_true rfl)⟩ rfl rfl (Nat.le_of_ble_eq_true rfl) dX4_count_55 (fun r7 hr7 => ?_)
      exact tr_iretP C hr hlk dX4_count_58
    · refine tr_ite (fun q3 => ?_) (fun q3 => ?_)
      · refine tr_tin C (k := 2) (tgt := 59) dX4_count_1 q3 (by decide) (by decide) rfl (by decide) ?_
        refine tr_aload_n C (i := 0) dX4_count_59 rfl rfl ?_
        refine tr_getR C (k := 3) (ci := 4) rfl rfl rfl inT4 rfl (by decide) w267 dX4_count_60 ?_
        refine tr_getI C (k := 4) (ci := 0) (fl_0 fl40) rfl rfl inT0 rfl (by decide) w231 dX4_count_63 ?_
        exact tr_iretP C hr hlk dX4_count_66
      · refine tr_ite (fun q4 => ?_) (fun q4 => ?_)
        · refine tr_tin C (k := 3) (tgt := 67) dX4_count_1 q4 (by decide) (by decide) rfl (by decide) ?_
          refine tr_aload_n C (i := 0) dX4_count_67 rfl rfl ?_
          refine tr_getI C (k := 7) (ci := 4) rfl rfl rfl inT4 rfl (by decide) w271 dX4_count_68 ?_
          exact tr_iretP C hr hlk dX4_count_71
        · refine tr_ite (fun q5 => ?_) (fun q5 => ?_)
          · refine tr_tin C (k := 4) (tgt := 72) dX4_count_1 q5 (by decide) (by decide) rfl (by decide) ?_
            refine tr_aload_n C (i := 0) dX4_count_72 rfl rfl ?_
            refine tr_getR C (k := 2) (ci := 4) rfl rfl rfl inT4 rfl (by decide) w266 dX4_count_73 ?_
            refine tr_getI C (k := 0) (ci := 1) rfl rfl rfl inT1 rfl (by decide) w132 dX4_count_76 ?_
            exact tr_iretP C hr hlk dX4_count_79
          · refine tr_ite (fun q6 => ?_) (fun q6 => ?_)
            · refine tr_tin C (k := 5) (tgt := 80) dX4_count_1 q6 (by decide) (by decide) rfl (by decide) ?_
              refine tr_aload_n C (i := 0) dX4_count_80 rfl rfl ?_
              refine tr_getR C (k := 3) (ci := 4) rfl rfl rfl inT4 rfl (by decide) w267 dX4_count_81 ?_
              refine tr_getI C (k := 6) (ci := 0) (fl_0 fl40) rfl rfl inT0 rfl (by decide) w235 dX4_count_84 ?_
              exact tr_iretP C hr hlk dX4_count_87
            · refine tr_tout C (tgt := 88) dX4_count_1 (by have eq1 := neI (0) q1 (by decide); have eq2 := neI (1) q2 (by decide); have eq3 := neI (2) q3 (by decide); have eq4 := neI (3) q4 (by decide); have eq5 := neI (4) q5 (by decide); have eq6 := neI (5) q6 (by decide); omega) (by decide) ?_
              refine tr_bipush C (v := -2) dX4_count_88 (by decide) ?_
              exact tr_iretP C hr hlk dX4_count_90
def fX4_sheet (a1 : Int32) (a2 : Int32) (a3 : Int32) (σ : Mem) : Option (Int32 × Mem) :=
  bn1 (fX4_isSheet a1 σ) fun r1 => (
    if r1 = 0 then (
      some (-2, σ)
    ) else (
      bn1 (fX4_within a2 (-1) 2 σ) fun r2 => (
        if r2 = 0 then (
          some (-2, σ)
        ) else (
          if a2 = (-1) then (
            gd (inB a1 4) (
              bn1 (fX2_make (32 + 2 * a1.toNatClampNeg) (-1) 0 σ) fun σ8 => (
                some (1, σ8)
              )
            )
          ) else (
            if a3 ≤ 40 then (
              if 0 ≤ a3 then (
                gd (inB a1 4) (
                  bn1 (fX2_make (32 + 2 * a1.toNatClampNeg) a2 a3 σ) fun σ4 => (
                    some (1, σ4)
                  )
                )
              ) else (
                some (-14, σ)
              )
            ) else (
              some (-2, σ)
            )
          )
        )
      )
    )
  )
set_option maxHeartbeats 4000000 in
set_option maxRecDepth 100000 in
theorem kX4_sheet (l : Launch) (g : GG) (cs : CS) (ad : Nat → Nat) (a1 : Int32) (a2 : Int32) (a3 : Int32) (σ : Mem) : CtI l g cs ad (shC g) mX4_sheet (.code mX4_sheet cX4_sheet 4 (some .int)) { frames := 2, cells := 0, slots := 0, locals := 44 } [.ref (ad 0), .int a1, .int a2, .int a3] σ (fX4_sheet a1 a2 a3 σ) := by
  refine ctI_intro (own := "KinInTheHeap") (by decide +kernel) rfl [some (.ref (ad 0)), some (.int a1), some (.int a2), some (.int a3)] (Nat.le_of_ble_eq_true rfl) rfl ?_
  intro p e s m args below meth c A C hr hlk
  refine tr_iload_n C (i := 1) dX4_sheet_0 rfl rfl ?_
  refine tr_cSIP C (av := [.int a1]) (st := []) (kX4_isSheet l g cs ad a1 σ) mwX4_isSheet w673 ⟨rfl, rfl⟩ ⟨(Nat.le_of_ble_eq_true rfl), (Nat.le_of_ble_eq_true rfl)⟩ rfl rfl (Nat.le_of_ble_eq_true rfl) dX4_sheet_1 (fun r1 hr1 => ?_)
  refine tr_if_eq C (tgt := 16) dX4_sheet_4 (by decide) (fun q11 => ?_) (fun q11 => ?_)
  · refine tr_bipush C (v := -2) dX4_sheet_16 (by decide) ?_
    exact tr_iret C hr hlk dX4_sheet_18
  · refine tr_iload_n C (i := 2) dX4_sheet_7 rfl rfl ?_
    refine tr_iconst C (v := -1) dX4_sheet_8 (by decide) ?_
    refine tr_iconst C (v := 2) dX4_sheet_9 (by decide) ?_
    refine tr_cSIP C (av := [.int a2, .int (-1), .int 2]) (st := []) (kX4_within l g cs ad a2 (-1) 2 σ) mwX4_within w300 ⟨rfl, rfl⟩ ⟨(Nat.le_of_ble_eq_true rfl), (Nat.le_of_ble_eq_true rfl)⟩ rfl rfl (Nat.le_of_ble_eq_true rfl) dX4_sheet_10 (fun r2 hr2 => ?_)
    refine tr_if_ne C (tgt := 19) dX4_sheet_13 (by decide) (fun q10 => ?_) (fun q10 => ?_)
    · refine tr_bipush C (v := -2) dX4_sheet_16 (by decide) ?_
      exact tr_iret C hr hlk dX4_sheet_18
    · refine tr_iload_n C (i := 2) dX4_sheet_19 rfl rfl ?_
      refine tr_iconst C (v := -1) dX4_sheet_20 (by decide) ?_
      refine tr_icmp_ne C (tgt := 37) dX4_sheet_21 (by decide) (fun q9 => ?_) (fun q9 => ?_)
      · refine tr_aload_n C (i := 0) dX4_sheet_24 rfl rfl ?_
        refine tr_getR C (k := 1) (ci := 4) rfl rfl rfl inT4 rfl (by decide) w265 dX4_sheet_25 ?_
        refine tr_iload_n C (i := 1) dX4_sheet_28 rfl rfl ?_
        refine tr_aald C (n := 4) (t0 := 3) (t := 32 + 2 * a1.toNatClampNeg) rfl rfl dX4_sheet_29 rfl (fun h7 => ?_)
        refine tr_iconst C (v := -1) dX4_sheet_30 (by decide) ?_
        refine tr_iconst C (v := 0) dX4_sheet_31 (by decide) ?_
        refine tr_cVV C (av := [.int (-1), .int 0]) (st := []) (kX2_make l g cs ad (32 + 2 * a1.toNatClampNeg) (-1) 0 (isSt_of (lt_of_in h7)) σ) mwX2_make w868 (st_0 (isSt_of (lt_of_in h7))) rfl ⟨rfl, rfl⟩ ⟨(Nat.le_of_ble_eq_true rfl), (Nat.le_of_ble_eq_true rfl)⟩ rfl rfl (Nat.le_of_ble_eq_true rfl) dX4_sheet_32 (fun σ8 hr8 => ?_)
        refine tr_iconst C (v := 1) dX4_sheet_35 (by decide) ?_
        exact tr_iret C hr hlk dX4_sheet_36
      · refine tr_iload_n C (i := 3) dX4_sheet_37 rfl rfl ?_
        refine tr_bipush C (v := 40) dX4_sheet_38 (by decide) ?_
        refine tr_icmp_le C (tgt := 46) dX4_sheet_40 (by decide) (fun q6 => ?_) (fun q6 => ?_)
        · refine tr_iload_n C (i := 3) dX4_sheet_46 rfl rfl ?_
          refine tr_if_ge C (tgt := 53) dX4_sheet_47 (by decide) (fun q5 => ?_) (fun q5 => ?_)
          · refine tr_aload_n C (i := 0) dX4_sheet_53 rfl rfl ?_
            refine tr_getR C (k := 1) (ci := 4) rfl rfl rfl inT4 rfl (by decide) w265 dX4_sheet_54 ?_
            refine tr_iload_n C (i := 1) dX4_sheet_57 rfl rfl ?_
            refine tr_aald C (n := 4) (t0 := 3) (t := 32 + 2 * a1.toNatClampNeg) rfl rfl dX4_sheet_58 rfl (fun h3 => ?_)
            refine tr_iload_n C (i := 2) dX4_sheet_59 rfl rfl ?_
            refine tr_iload_n C (i := 3) dX4_sheet_60 rfl rfl ?_
            refine tr_cVV C (av := [.int a2, .int a3]) (st := []) (kX2_make l g cs ad (32 + 2 * a1.toNatClampNeg) a2 a3 (isSt_of (lt_of_in h3)) σ) mwX2_make w868 (st_0 (isSt_of (lt_of_in h3))) rfl ⟨rfl, rfl⟩ ⟨(Nat.le_of_ble_eq_true rfl), (Nat.le_of_ble_eq_true rfl)⟩ rfl rfl (Nat.le_of_ble_eq_true rfl) dX4_sheet_61 (fun σ4 hr4 => ?_)
            refine tr_iconst C (v := 1) dX4_sheet_64 (by decide) ?_
            exact tr_iret C hr hlk dX4_sheet_65
          · refine tr_bipush C (v := -14) dX4_sheet_50 (by decide) ?_
            exact tr_iret C hr hlk dX4_sheet_52
        · refine tr_bipush C (v := -2) dX4_sheet_43 (by decide) ?_
          exact tr_iret C hr hlk dX4_sheet_45
def fX4_cell (a1 : Int32) (a2 : Int32) (a3 : Int32) (σ : Mem) : Option (Int32 × Mem) :=
  bn1 (fX4_isSheet a1 σ) fun r1 => (
    if r1 = 0 then (
      some (-2, σ)
    ) else (
      gd (inB a1 4) (
        bn1 (fX2_isMissing (32 + 2 * a1.toNatClampNeg) σ) fun r3 => (
          if r3 = 0 then (
            gd (inB a1 4) (
              bnd (fX2_put (32 + 2 * a1.toNatClampNeg) a2 a3 σ) fun r5 σ5 => (
                if r5 = 0 then (
                  some (-12, σ5)
                ) else (
                  some (1, σ5)
                )
              )
            )
          ) else (
            some (-11, σ)
          )
        )
      )
    )
  )
set_option maxHeartbeats 4000000 in
set_option maxRecDepth 100000 in
theorem kX4_cell (l : Launch) (g : GG) (cs : CS) (ad : Nat → Nat) (a1 : Int32) (a2 : Int32) (a3 : Int32) (σ : Mem) : CtI l g cs ad (shC g) mX4_cell (.code mX4_cell cX4_cell 4 (some .int)) { frames := 2, cells := 0, slots := 0, locals := 42 } [.ref (ad 0), .int a1, .int a2, .int a3] σ (fX4_cell a1 a2 a3 σ) := by
  refine ctI_intro (own := "KinInTheHeap") (by decide +kernel) rfl [some (.ref (ad 0)), some (.int a1), some (.int a2), some (.int a3)] (Nat.le_of_ble_eq_true rfl) rfl ?_
  intro p e s m args below meth c A C hr hlk
  refine tr_iload_n C (i := 1) dX4_cell_0 rfl rfl ?_
  refine tr_cSIP C (av := [.int a1]) (st := []) (kX4_isSheet l g cs ad a1 σ) mwX4_isSheet w673 ⟨rfl, rfl⟩ ⟨(Nat.le_of_ble_eq_true rfl), (Nat.le_of_ble_eq_true rfl)⟩ rfl rfl (Nat.le_of_ble_eq_true rfl) dX4_cell_1 (fun r1 hr1 => ?_)
  refine tr_if_ne C (tgt := 10) dX4_cell_4 (by decide) (fun q8 => ?_) (fun q8 => ?_)
  · refine tr_bipush C (v := -2) dX4_cell_7 (by decide) ?_
    exact tr_iret C hr hlk dX4_cell_9
  · refine tr_aload_n C (i := 0) dX4_cell_10 rfl rfl ?_
    refine tr_getR C (k := 1) (ci := 4) rfl rfl rfl inT4 rfl (by decide) w265 dX4_cell_11 ?_
    refine tr_iload_n C (i := 1) dX4_cell_14 rfl rfl ?_
    refine tr_aald C (n := 4) (t0 := 3) (t := 32 + 2 * a1.toNatClampNeg) rfl rfl dX4_cell_15 rfl (fun h2 => ?_)
    refine tr_cVIP C (av := []) (st := []) (kX2_isMissing l g cs ad (32 + 2 * a1.toNatClampNeg) (isSt_of (lt_of_in h2)) σ) mwX2_isMissing w683 (st_0 (isSt_of (lt_of_in h2))) rfl ⟨rfl, rfl⟩ ⟨(Nat.le_of_ble_eq_true rfl), (Nat.le_of_ble_eq_true rfl)⟩ rfl rfl (Nat.le_of_ble_eq_true rfl) dX4_cell_16 (fun r3 hr3 => ?_)
    refine tr_if_eq C (tgt := 25) dX4_cell_19 (by decide) (fun q7 => ?_) (fun q7 => ?_)
    · refine tr_aload_n C (i := 0) dX4_cell_25 rfl rfl ?_
      refine tr_getR C (k := 1) (ci := 4) rfl rfl rfl inT4 rfl (by decide) w265 dX4_cell_26 ?_
      refine tr_iload_n C (i := 1) dX4_cell_29 rfl rfl ?_
      refine tr_aald C (n := 4) (t0 := 3) (t := 32 + 2 * a1.toNatClampNeg) rfl rfl dX4_cell_30 rfl (fun h4 => ?_)
      refine tr_iload_n C (i := 2) dX4_cell_31 rfl rfl ?_
      refine tr_iload_n C (i := 3) dX4_cell_32 rfl rfl ?_
      refine tr_cVI C (av := [.int a2, .int a3]) (st := []) (kX2_put l g cs ad (32 + 2 * a1.toNatClampNeg) a2 a3 (isSt_of (lt_of_in h4)) σ) mwX2_put w874 (st_0 (isSt_of (lt_of_in h4))) rfl ⟨rfl, rfl⟩ ⟨(Nat.le_of_ble_eq_true rfl), (Nat.le_of_ble_eq_true rfl)⟩ rfl rfl (Nat.le_of_ble_eq_true rfl) dX4_cell_33 (fun r5 σ5 hr5 => ?_)
      refine tr_if_eq C (tgt := 43) dX4_cell_36 (by decide) (fun q6 => ?_) (fun q6 => ?_)
      · refine tr_bipush C (v := -12) dX4_cell_43 (by decide) ?_
        exact tr_iret C hr hlk dX4_cell_45
      · refine tr_iconst C (v := 1) dX4_cell_39 (by decide) ?_
        refine tr_goto C (tgt := 45) dX4_cell_40 (by decide) ?_
        exact tr_iret C hr hlk dX4_cell_45
    · refine tr_bipush C (v := -11) dX4_cell_22 (by decide) ?_
      exact tr_iret C hr hlk dX4_cell_24
def fX4_copy (a1 : Int32) (a2 : Int32) (a3 : Int32) (a4 : Int32) (a5 : Int32) (σ : Mem) : Option (Int32 × Mem) :=
  bn1 (fX4_isSheet a1 σ) fun r1 => (
    if r1 = 0 then (
      some (-2, σ)
    ) else (
      bn1 (fX4_isSheet a3 σ) fun r2 => (
        if r2 = 0 then (
          some (-2, σ)
        ) else (
          gd (inB a1 4) (
            gd (inB a3 4) (
              bn1 (fX2_isMissing (32 + 2 * a1.toNatClampNeg) σ) fun r5 => (
                if r5 = 0 then (
                  bn1 (fX2_isMissing (32 + 2 * a3.toNatClampNeg) σ) fun r6 => (
                    if r6 = 0 then (
                      if (σ.1 (32 + 2 * a1.toNatClampNeg) 1) = (σ.1 (32 + 2 * a3.toNatClampNeg) 1) then (
                        bn1 (fX2_holds (32 + 2 * a1.toNatClampNeg) a2 a5 σ) fun r7 => (
                          if r7 = 0 then (
                            some (-12, σ)
                          ) else (
                            bn1 (fX2_holds (32 + 2 * a3.toNatClampNeg) a4 a5 σ) fun r8 => (
                              if r8 = 0 then (
                                some (-12, σ)
                              ) else (
                                gd (cpOk a2 a4 a5 40 40) (
                                  stp (cpy σ (32 + 2 * a1.toNatClampNeg + 1) a2 (32 + 2 * a3.toNatClampNeg + 1) a4 a5) fun σw9 => (
                                    some (a5, σw9)
                                  )
                                )
                              )
                            )
                          )
                        )
                      ) else (
                        some (-13, σ)
                      )
                    ) else (
                      some (-11, σ)
                    )
                  )
                ) else (
                  some (-11, σ)
                )
              )
            )
          )
        )
      )
    )
  )
set_option maxHeartbeats 4000000 in
set_option maxRecDepth 100000 in
theorem kX4_copy (l : Launch) (g : GG) (cs : CS) (ad : Nat → Nat) (a1 : Int32) (a2 : Int32) (a3 : Int32) (a4 : Int32) (a5 : Int32) (σ : Mem) : CtI l g cs ad (shC g) mX4_copy (.code mX4_copy cX4_copy 8 (some .int)) { frames := 2, cells := 0, slots := 0, locals := 68 } [.ref (ad 0), .int a1, .int a2, .int a3, .int a4, .int a5] σ (fX4_copy a1 a2 a3 a4 a5 σ) := by
  refine ctI_intro (own := "KinInTheHeap") (by decide +kernel) rfl [some (.ref (ad 0)), some (.int a1), some (.int a2), some (.int a3), some (.int a4), some (.int a5), none, none] (Nat.le_of_ble_eq_true rfl) rfl ?_
  intro p e s m args below meth c A C hr hlk
  refine tr_iload_n C (i := 1) dX4_copy_0 rfl rfl ?_
  refine tr_cSIP C (av := [.int a1]) (st := []) (kX4_isSheet l g cs ad a1 σ) mwX4_isSheet w673 ⟨rfl, rfl⟩ ⟨(Nat.le_of_ble_eq_true rfl), (Nat.le_of_ble_eq_true rfl)⟩ rfl rfl (Nat.le_of_ble_eq_true rfl) dX4_copy_1 (fun r1 hr1 => ?_)
  refine tr_if_eq C (tgt := 14) dX4_copy_4 (by decide) (fun q16 => ?_) (fun q16 => ?_)
  · refine tr_bipush C (v := -2) dX4_copy_14 (by decide) ?_
    exact tr_iret C hr hlk dX4_copy_16
  · refine tr_iload_n C (i := 3) dX4_copy_7 rfl rfl ?_
    refine tr_cSIP C (av := [.int a3]) (st := []) (kX4_isSheet l g cs ad a3 σ) mwX4_isSheet w673 ⟨rfl, rfl⟩ ⟨(Nat.le_of_ble_eq_true rfl), (Nat.le_of_ble_eq_true rfl)⟩ rfl rfl (Nat.le_of_ble_eq_true rfl) dX4_copy_8 (fun r2 hr2 => ?_)
    refine tr_if_ne C (tgt := 17) dX4_copy_11 (by decide) (fun q15 => ?_) (fun q15 => ?_)
    · refine tr_bipush C (v := -2) dX4_copy_14 (by decide) ?_
      exact tr_iret C hr hlk dX4_copy_16
    · refine tr_aload_n C (i := 0) dX4_copy_17 rfl rfl ?_
      refine tr_getR C (k := 1) (ci := 4) rfl rfl rfl inT4 rfl (by decide) w265 dX4_copy_18 ?_
      refine tr_iload_n C (i := 1) dX4_copy_21 rfl rfl ?_
      refine tr_aald C (n := 4) (t0 := 3) (t := 32 + 2 * a1.toNatClampNeg) rfl rfl dX4_copy_22 rfl (fun h3 => ?_)
      refine tr_astore C (i := 6) (lv' := [some (.ref (ad 0)), some (.int a1), some (.int a2), some (.int a3), some (.int a4), some (.int a5), some (.ref (ad (32 + 2 * a1.toNatClampNeg))), none]) dX4_copy_23 (by decide) rfl ?_
      refine tr_aload_n C (i := 0) dX4_copy_25 rfl rfl ?_
      refine tr_getR C (k := 1) (ci := 4) rfl rfl rfl inT4 rfl (by decide) w265 dX4_copy_26 ?_
      refine tr_iload_n C (i := 3) dX4_copy_29 rfl rfl ?_
      refine tr_aald C (n := 4) (t0 := 3) (t := 32 + 2 * a3.toNatClampNeg) rfl rfl dX4_copy_30 rfl (fun h4 => ?_)
      refine tr_astore C (i := 7) (lv' := [some (.ref (ad 0)), some (.int a1), some (.int a2), some (.int a3), some (.int a4), some (.int a5), some (.ref (ad (32 + 2 * a1.toNatClampNeg))), some (.ref (ad (32 + 2 * a3.toNatClampNeg)))]) dX4_copy_31 (by decide) rfl ?_
      refine tr_aload C (i := 6) dX4_copy_33 rfl ?_
      refine tr_cVIP C (av := []) (st := []) (kX2_isMissing l g cs ad (32 + 2 * a1.toNatClampNeg) (isSt_of (lt_of_in h3)) σ) mwX2_isMissing w683 (st_0 (isSt_of (lt_of_in h3))) rfl ⟨rfl, rfl⟩ ⟨(Nat.le_of_ble_eq_true rfl), (Nat.le_of_ble_eq_true rfl)⟩ rfl rfl (Nat.le_of_ble_eq_true rfl) dX4_copy_35 (fun r5 hr5 => ?_)
      refine tr_if_ne C (tgt := 49) dX4_copy_38 (by decide) (fun q14 => ?_) (fun q14 => ?_)
      · refine tr_aload C (i := 7) dX4_copy_41 rfl ?_
        refine tr_cVIP C (av := []) (st := []) (kX2_isMissing l g cs ad (32 + 2 * a3.toNatClampNeg) (isSt_of (lt_of_in h4)) σ) mwX2_isMissing w683 (st_0 (isSt_of (lt_of_in h4))) rfl ⟨rfl, rfl⟩ ⟨(Nat.le_of_ble_eq_true rfl), (Nat.le_of_ble_eq_true rfl)⟩ rfl rfl (Nat.le_of_ble_eq_true rfl) dX4_copy_43 (fun r6 hr6 => ?_)
        refine tr_if_eq C (tgt := 52) dX4_copy_46 (by decide) (fun q13 => ?_) (fun q13 => ?_)
        · refine tr_aload C (i := 6) dX4_copy_52 rfl ?_
          refine tr_getI C (k := 1) (ci := 2) (st_0 (isSt_of (lt_of_in h3))) rfl rfl inT2 rfl (by decide) w190 dX4_copy_54 ?_
          refine tr_aload C (i := 7) dX4_copy_57 rfl ?_
          refine tr_getI C (k := 1) (ci := 2) (st_0 (isSt_of (lt_of_in h4))) rfl rfl inT2 rfl (by decide) w190 dX4_copy_59 ?_
          refine tr_icmp_eq C (tgt := 68) dX4_copy_62 (by decide) (fun q12 => ?_) (fun q12 => ?_)
          · refine tr_aload C (i := 6) dX4_copy_68 rfl ?_
            refine tr_iload_n C (i := 2) dX4_copy_70 rfl rfl ?_
            refine tr_iload C (i := 5) dX4_copy_71 rfl ?_
            refine tr_cVIP C (av := [.int a2, .int a5]) (st := []) (kX2_holds l g cs ad (32 + 2 * a1.toNatClampNeg) a2 a5 (isSt_of (lt_of_in h3)) σ) mwX2_holds w916 (st_0 (isSt_of (lt_of_in h3))) rfl ⟨rfl, rfl⟩ ⟨(Nat.le_of_ble_eq_true rfl), (Nat.le_of_ble_eq_true rfl)⟩ rfl rfl (Nat.le_of_ble_eq_true rfl) dX4_copy_73 (fun r7 hr7 => ?_)
            refine tr_if_eq C (tgt := 91) dX4_copy_76 (by decide) (fun q11 => ?_) (fun q11 => ?_)
            · refine tr_bipush C (v := -12) dX4_copy_91 (by decide) ?_
              exact tr_iret C hr hlk dX4_copy_93
            · refine tr_aload C (i := 7) dX4_copy_79 rfl ?_
              refine tr_iload C (i := 4) dX4_copy_81 rfl ?_
              refine tr_iload C (i := 5) dX4_copy_83 rfl ?_
              refine tr_cVIP C (av := [.int a4, .int a5]) (st := []) (kX2_holds l g cs ad (32 + 2 * a3.toNatClampNeg) a4 a5 (isSt_of (lt_of_in h4)) σ) mwX2_holds w916 (st_0 (isSt_of (lt_of_in h4))) rfl ⟨rfl, rfl⟩ ⟨(Nat.le_of_ble_eq_true rfl), (Nat.le_of_ble_eq_true rfl)⟩ rfl rfl (Nat.le_of_ble_eq_true rfl) dX4_copy_85 (fun r8 hr8 => ?_)
              refine tr_if_ne C (tgt := 94) dX4_copy_88 (by decide) (fun q10 => ?_) (fun q10 => ?_)
              · refine tr_bipush C (v := -12) dX4_copy_91 (by decide) ?_
                exact tr_iret C hr hlk dX4_copy_93
              · refine tr_aload C (i := 6) dX4_copy_94 rfl ?_
                refine tr_getR C (k := 0) (ci := 2) (st_0 (isSt_of (lt_of_in h3))) rfl rfl inT2 rfl (by decide) w188 dX4_copy_96 ?_
                refine tr_iload_n C (i := 2) dX4_copy_99 rfl rfl ?_
                refine tr_aload C (i := 7) dX4_copy_100 rfl ?_
                refine tr_getR C (k := 0) (ci := 2) (st_0 (isSt_of (lt_of_in h4))) rfl rfl inT2 rfl (by decide) w188 dX4_copy_102 ?_
                refine tr_iload C (i := 4) dX4_copy_105 rfl ?_
                refine tr_iload C (i := 5) dX4_copy_107 rfl ?_
                refine tr_acopy C (σ' := cpy σ (32 + 2 * a1.toNatClampNeg + 1) a2 (32 + 2 * a3.toNatClampNeg + 1) a4 a5) (st_1 (isSt_of (lt_of_in h3))) (st_1 (isSt_of (lt_of_in h4))) w920 (Nat.le_of_ble_eq_true rfl) (Nat.le_of_ble_eq_true rfl) dX4_copy_109 rfl ?_
                refine tr_stp (fun σw9 eσw9 => ?_)
                refine tr_iload C (i := 5) dX4_copy_112 rfl ?_
                exact tr_iret C hr hlk dX4_copy_114
          · refine tr_bipush C (v := -13) dX4_copy_65 (by decide) ?_
            exact tr_iret C hr hlk dX4_copy_67
        · refine tr_bipush C (v := -11) dX4_copy_49 (by decide) ?_
          exact tr_iret C hr hlk dX4_copy_51
      · refine tr_bipush C (v := -11) dX4_copy_49 (by decide) ?_
        exact tr_iret C hr hlk dX4_copy_51
def fX4_heapOf_L9 (b1 : Nat) (a2 : Int32) (a3 : Int32) (ih9 : Mem × Int32 × Int32 × Int32 → Option (Int32 × Mem)) : Mem × Int32 × Int32 × Int32 → Option (Int32 × Mem) := fun v => match v with
  | (σ9, y4_9, y5_9, y6_9) =>
    if a3 ≤ y6_9 then (
      some (y4_9, σ9)
    ) else (
      bn1 (fX2_holds b1 y5_9 3 σ9) fun r1 => (
        if r1 = 0 then (
          some (-12, σ9)
        ) else (
          gd (inB y5_9 40) (
            gd (inB (y5_9 + 1) 40) (
              gd (inB (y5_9 + 2) 40) (
                bnd (fX4_dust (rd σ9 (b1 + 1) y5_9) (rd σ9 (b1 + 1) (y5_9 + 1)) (rd σ9 (b1 + 1) (y5_9 + 2)) σ9) fun r2 σ2 => (
                  if r2 < 0 then (
                    ih9 (σ2, y4_9, y5_9 + 3, y6_9 + 1)
                  ) else (
                    ih9 (σ2, y4_9 + 1, y5_9 + 3, y6_9 + 1)
                  )
                )
              )
            )
          )
        )
      )
    )
def fX4_heapOf (b1 : Nat) (a2 : Int32) (a3 : Int32) (σ : Mem) : Option (Int32 × Mem) :=
  loopN (fX4_heapOf_L9 b1 a2 a3) 1000 (σ, 0, a2, 0)
set_option maxHeartbeats 4000000 in
set_option maxRecDepth 100000 in
theorem kX4_heapOf (l : Launch) (g : GG) (cs : CS) (ad : Nat → Nat) (b1 : Nat) (a2 : Int32) (a3 : Int32) (hb1 : isSt b1) (σ : Mem) : CtI l g cs ad (shC g) mX4_heapOf (.code mX4_heapOf cX4_heapOf 7 (some .int)) { frames := 4, cells := 0, slots := 0, locals := 87 } [.ref (ad 0), .ref (ad b1), .int a2, .int a3] σ (fX4_heapOf b1 a2 a3 σ) := by
  refine ctI_intro (own := "KinInTheHeap") (by decide +kernel) rfl [some (.ref (ad 0)), some (.ref (ad b1)), some (.int a2), some (.int a3), none, none, none] (Nat.le_of_ble_eq_true rfl) rfl ?_
  intro p e s m args below meth c A C hr hlk
  refine tr_iconst C (v := 0) dX4_heapOf_0 (by decide) ?_
  refine tr_istore C (i := 4) (lv' := [some (.ref (ad 0)), some (.ref (ad b1)), some (.int a2), some (.int a3), some (.int 0), none, none]) dX4_heapOf_1 (by decide) rfl ?_
  refine tr_iload_n C (i := 2) dX4_heapOf_3 rfl rfl ?_
  refine tr_istore C (i := 5) (lv' := [some (.ref (ad 0)), some (.ref (ad b1)), some (.int a2), some (.int a3), some (.int 0), some (.int a2), none]) dX4_heapOf_4 (by decide) rfl ?_
  refine tr_iconst C (v := 0) dX4_heapOf_6 (by decide) ?_
  refine tr_istore C (i := 6) (lv' := [some (.ref (ad 0)), some (.ref (ad b1)), some (.int a2), some (.int a3), some (.int 0), some (.int a2), some (.int 0)]) dX4_heapOf_7 (by decide) rfl ?_
  refine tr_mask [true, true, false, true, true, true, true] rfl ?_
  refine tr_loop (b := fX4_heapOf_L9 b1 a2 a3) (sg := fun v => v.1) (lw := fun v => [some (.ref (ad 0)), some (.ref (ad b1)), none, some (.int a3), some (.int v.2.1), some (.int v.2.2.1), some (.int v.2.2.2)]) (sw := fun v => []) (fun ih9 IH9 v => ?_) 1000 (σ, 0, a2, 0)
  obtain ⟨σ9, y4_9, y5_9, y6_9⟩ := v
  refine tr_st (σ' := σ9) (lv' := [some (.ref (ad 0)), some (.ref (ad b1)), none, some (.int a3), some (.int y4_9), some (.int y5_9), some (.int y6_9)]) (st' := []) rfl rfl rfl ?_
  refine tr_iload C (i := 6) dX4_heapOf_9 rfl ?_
  refine tr_iload_n C (i := 3) dX4_heapOf_11 rfl rfl ?_
  refine tr_icmp_ge C (tgt := 72) dX4_heapOf_12 (by decide) (fun q8 => ?_) (fun q8 => ?_)
  · refine tr_iload C (i := 4) dX4_heapOf_72 rfl ?_
    exact tr_iret C hr hlk dX4_heapOf_74
  · refine tr_aload_n C (i := 1) dX4_heapOf_15 rfl rfl ?_
    refine tr_iload C (i := 5) dX4_heapOf_16 rfl ?_
    refine tr_iconst C (v := 3) dX4_heapOf_18 (by decide) ?_
    refine tr_cVIP C (av := [.int y5_9, .int 3]) (st := []) (kX2_holds l g cs ad b1 y5_9 3 hb1 σ9) mwX2_holds w916 (st_0 hb1) rfl ⟨rfl, rfl⟩ ⟨(Nat.le_of_ble_eq_true rfl), (Nat.le_of_ble_eq_true rfl)⟩ rfl rfl (Nat.le_of_ble_eq_true rfl) dX4_heapOf_19 (fun r1 hr1 => ?_)
    refine tr_if_ne C (tgt := 28) dX4_heapOf_22 (by decide) (fun q7 => ?_) (fun q7 => ?_)
    · refine tr_bipush C (v := -12) dX4_heapOf_25 (by decide) ?_
      exact tr_iret C hr hlk dX4_heapOf_27
    · refine tr_aload_n C (i := 0) dX4_heapOf_28 rfl rfl ?_
      refine tr_aload_n C (i := 1) dX4_heapOf_29 rfl rfl ?_
      refine tr_getR C (k := 0) (ci := 2) (st_0 hb1) rfl rfl inT2 rfl (by decide) w188 dX4_heapOf_30 ?_
      refine tr_iload C (i := 5) dX4_heapOf_33 rfl ?_
      refine tr_iald C (n := 40) (st_1 hb1) dX4_heapOf_35 (fun h6 => ?_)
      refine tr_aload_n C (i := 1) dX4_heapOf_36 rfl rfl ?_
      refine tr_getR C (k := 0) (ci := 2) (st_0 hb1) rfl rfl inT2 rfl (by decide) w188 dX4_heapOf_37 ?_
      refine tr_iload C (i := 5) dX4_heapOf_40 rfl ?_
      refine tr_iconst C (v := 1) dX4_heapOf_42 (by decide) ?_
      refine tr_iadd C dX4_heapOf_43 ?_
      refine tr_iald C (n := 40) (st_1 hb1) dX4_heapOf_44 (fun h5 => ?_)
      refine tr_aload_n C (i := 1) dX4_heapOf_45 rfl rfl ?_
      refine tr_getR C (k := 0) (ci := 2) (st_0 hb1) rfl rfl inT2 rfl (by decide) w188 dX4_heapOf_46 ?_
      refine tr_iload C (i := 5) dX4_heapOf_49 rfl ?_
      refine tr_iconst C (v := 2) dX4_heapOf_51 (by decide) ?_
      refine tr_iadd C dX4_heapOf_52 ?_
      refine tr_iald C (n := 40) (st_1 hb1) dX4_heapOf_53 (fun h4 => ?_)
      refine tr_cVI C (av := [.int (rd σ9 (b1 + 1) y5_9), .int (rd σ9 (b1 + 1) (y5_9 + 1)), .int (rd σ9 (b1 + 1) (y5_9 + 2))]) (st := []) (kX4_dust l g cs ad (rd σ9 (b1 + 1) y5_9) (rd σ9 (b1 + 1) (y5_9 + 1)) (rd σ9 (b1 + 1) (y5_9 + 2)) σ9) mwX4_dust w929 rfl rfl ⟨rfl, rfl⟩ ⟨(Nat.le_of_ble_eq_true rfl), (Nat.le_of_ble_eq_true rfl)⟩ rfl rfl (Nat.le_of_ble_eq_true rfl) dX4_heapOf_54 (fun r2 σ2 hr2 => ?_)
      refine tr_if_lt C (tgt := 63) dX4_heapOf_57 (by decide) (fun q3 => ?_) (fun q3 => ?_)
      · refine tr_iinc C (i := 5) (d := 3) (lv' := [some (.ref (ad 0)), some (.ref (ad b1)), none, some (.int a3), some (.int y4_9), some (.int (y5_9 + 3)), some (.int y6_9)]) dX4_heapOf_63 rfl (by decide) (by decide) rfl ?_
        refine tr_iinc C (i := 6) (d := 1) (lv' := [some (.ref (ad 0)), some (.ref (ad b1)), none, some (.int a3), some (.int y4_9), some (.int (y5_9 + 3)), some (.int (y6_9 + 1))]) dX4_heapOf_66 rfl (by decide) (by decide) rfl ?_
        refine tr_goto C (tgt := 9) dX4_heapOf_69 (by decide) ?_
        exact IH9 (σ2, y4_9, y5_9 + 3, y6_9 + 1)
      · refine tr_iinc C (i := 4) (d := 1) (lv' := [some (.ref (ad 0)), some (.ref (ad b1)), none, some (.int a3), some (.int (y4_9 + 1)), some (.int y5_9), some (.int y6_9)]) dX4_heapOf_60 rfl (by decide) (by decide) rfl ?_
        refine tr_iinc C (i := 5) (d := 3) (lv' := [some (.ref (ad 0)), some (.ref (ad b1)), none, some (.int a3), some (.int (y4_9 + 1)), some (.int (y5_9 + 3)), some (.int y6_9)]) dX4_heapOf_63 rfl (by decide) (by decide) rfl ?_
        refine tr_iinc C (i := 6) (d := 1) (lv' := [some (.ref (ad 0)), some (.ref (ad b1)), none, some (.int a3), some (.int (y4_9 + 1)), some (.int (y5_9 + 3)), some (.int (y6_9 + 1))]) dX4_heapOf_66 rfl (by decide) (by decide) rfl ?_
        refine tr_goto C (tgt := 9) dX4_heapOf_69 (by decide) ?_
        exact IH9 (σ2, y4_9 + 1, y5_9 + 3, y6_9 + 1)
def fX4_heap (a1 : Int32) (a2 : Int32) (a3 : Int32) (a4 : Int32) (σ : Mem) : Option (Int32 × Mem) :=
  bn1 (fX4_isSheet a1 σ) fun r1 => (
    if r1 = 0 then (
      some (-2, σ)
    ) else (
      bn1 (fX4_within a2 0 2 σ) fun r2 => (
        if r2 = 0 then (
          some (-2, σ)
        ) else (
          bn1 (fX4_within a4 0 8 σ) fun r3 => (
            if r3 = 0 then (
              some (-2, σ)
            ) else (
              gd (inB a1 4) (
                bn1 (fX2_isMissing (32 + 2 * a1.toNatClampNeg) σ) fun r5 => (
                  if r5 = 0 then (
                    if (σ.1 (32 + 2 * a1.toNatClampNeg) 1) = a2 then (
                      bnd (fX4_heapOf (32 + 2 * a1.toNatClampNeg) a3 a4 σ) fun r6 σ6 => (
                        some (r6, σ6)
                      )
                    ) else (
                      some (-13, σ)
                    )
                  ) else (
                    some (-11, σ)
                  )
                )
              )
            )
          )
        )
      )
    )
  )
set_option maxHeartbeats 4000000 in
set_option maxRecDepth 100000 in
theorem kX4_heap (l : Launch) (g : GG) (cs : CS) (ad : Nat → Nat) (a1 : Int32) (a2 : Int32) (a3 : Int32) (a4 : Int32) (σ : Mem) : CtI l g cs ad (shC g) mX4_heap (.code mX4_heap cX4_heap 6 (some .int)) { frames := 5, cells := 0, slots := 0, locals := 113 } [.ref (ad 0), .int a1, .int a2, .int a3, .int a4] σ (fX4_heap a1 a2 a3 a4 σ) := by
  refine ctI_intro (own := "KinInTheHeap") (by decide +kernel) rfl [some (.ref (ad 0)), some (.int a1), some (.int a2), some (.int a3), some (.int a4), none] (Nat.le_of_ble_eq_true rfl) rfl ?_
  intro p e s m args below meth c A C hr hlk
  refine tr_iload_n C (i := 1) dX4_heap_0 rfl rfl ?_
  refine tr_cSIP C (av := [.int a1]) (st := []) (kX4_isSheet l g cs ad a1 σ) mwX4_isSheet w673 ⟨rfl, rfl⟩ ⟨(Nat.le_of_ble_eq_true rfl), (Nat.le_of_ble_eq_true rfl)⟩ rfl rfl (Nat.le_of_ble_eq_true rfl) dX4_heap_1 (fun r1 hr1 => ?_)
  refine tr_if_eq C (tgt := 27) dX4_heap_4 (by decide) (fun q11 => ?_) (fun q11 => ?_)
  · refine tr_bipush C (v := -2) dX4_heap_27 (by decide) ?_
    exact tr_iret C hr hlk dX4_heap_29
  · refine tr_iload_n C (i := 2) dX4_heap_7 rfl rfl ?_
    refine tr_iconst C (v := 0) dX4_heap_8 (by decide) ?_
    refine tr_iconst C (v := 2) dX4_heap_9 (by decide) ?_
    refine tr_cSIP C (av := [.int a2, .int 0, .int 2]) (st := []) (kX4_within l g cs ad a2 0 2 σ) mwX4_within w300 ⟨rfl, rfl⟩ ⟨(Nat.le_of_ble_eq_true rfl), (Nat.le_of_ble_eq_true rfl)⟩ rfl rfl (Nat.le_of_ble_eq_true rfl) dX4_heap_10 (fun r2 hr2 => ?_)
    refine tr_if_eq C (tgt := 27) dX4_heap_13 (by decide) (fun q10 => ?_) (fun q10 => ?_)
    · refine tr_bipush C (v := -2) dX4_heap_27 (by decide) ?_
      exact tr_iret C hr hlk dX4_heap_29
    · refine tr_iload C (i := 4) dX4_heap_16 rfl ?_
      refine tr_iconst C (v := 0) dX4_heap_18 (by decide) ?_
      refine tr_bipush C (v := 8) dX4_heap_19 (by decide) ?_
      refine tr_cSIP C (av := [.int a4, .int 0, .int 8]) (st := []) (kX4_within l g cs ad a4 0 8 σ) mwX4_within w300 ⟨rfl, rfl⟩ ⟨(Nat.le_of_ble_eq_true rfl), (Nat.le_of_ble_eq_true rfl)⟩ rfl rfl (Nat.le_of_ble_eq_true rfl) dX4_heap_21 (fun r3 hr3 => ?_)
      refine tr_if_ne C (tgt := 30) dX4_heap_24 (by decide) (fun q9 => ?_) (fun q9 => ?_)
      · refine tr_bipush C (v := -2) dX4_heap_27 (by decide) ?_
        exact tr_iret C hr hlk dX4_heap_29
      · refine tr_aload_n C (i := 0) dX4_heap_30 rfl rfl ?_
        refine tr_getR C (k := 1) (ci := 4) rfl rfl rfl inT4 rfl (by decide) w265 dX4_heap_31 ?_
        refine tr_iload_n C (i := 1) dX4_heap_34 rfl rfl ?_
        refine tr_aald C (n := 4) (t0 := 3) (t := 32 + 2 * a1.toNatClampNeg) rfl rfl dX4_heap_35 rfl (fun h4 => ?_)
        refine tr_astore C (i := 5) (lv' := [some (.ref (ad 0)), some (.int a1), some (.int a2), some (.int a3), some (.int a4), some (.ref (ad (32 + 2 * a1.toNatClampNeg)))]) dX4_heap_36 (by decide) rfl ?_
        refine tr_aload C (i := 5) dX4_heap_38 rfl ?_
        refine tr_cVIP C (av := []) (st := []) (kX2_isMissing l g cs ad (32 + 2 * a1.toNatClampNeg) (isSt_of (lt_of_in h4)) σ) mwX2_isMissing w683 (st_0 (isSt_of (lt_of_in h4))) rfl ⟨rfl, rfl⟩ ⟨(Nat.le_of_ble_eq_true rfl), (Nat.le_of_ble_eq_true rfl)⟩ rfl rfl (Nat.le_of_ble_eq_true rfl) dX4_heap_40 (fun r5 hr5 => ?_)
        refine tr_if_eq C (tgt := 49) dX4_heap_43 (by decide) (fun q8 => ?_) (fun q8 => ?_)
        · refine tr_aload C (i := 5) dX4_heap_49 rfl ?_
          refine tr_getI C (k := 1) (ci := 2) (st_0 (isSt_of (lt_of_in h4))) rfl rfl inT2 rfl (by decide) w190 dX4_heap_51 ?_
          refine tr_iload_n C (i := 2) dX4_heap_54 rfl rfl ?_
          refine tr_icmp_ne C (tgt := 70) dX4_heap_55 (by decide) (fun q7 => ?_) (fun q7 => ?_)
          · refine tr_aload_n C (i := 0) dX4_heap_58 rfl rfl ?_
            refine tr_aload C (i := 5) dX4_heap_59 rfl ?_
            refine tr_iload_n C (i := 3) dX4_heap_61 rfl rfl ?_
            refine tr_iload C (i := 4) dX4_heap_62 rfl ?_
            refine tr_cVI C (av := [.ref (ad (32 + 2 * a1.toNatClampNeg)), .int a3, .int a4]) (st := []) (kX4_heapOf l g cs ad (32 + 2 * a1.toNatClampNeg) a3 a4 (isSt_of (lt_of_in h4)) σ) mwX4_heapOf w925 rfl rfl ⟨rfl, rfl⟩ ⟨(Nat.le_of_ble_eq_true rfl), (Nat.le_of_ble_eq_true rfl)⟩ rfl rfl (Nat.le_of_ble_eq_true rfl) dX4_heap_64 (fun r6 σ6 hr6 => ?_)
            refine tr_goto C (tgt := 72) dX4_heap_67 (by decide) ?_
            exact tr_iret C hr hlk dX4_heap_72
          · refine tr_bipush C (v := -13) dX4_heap_70 (by decide) ?_
            exact tr_iret C hr hlk dX4_heap_72
        · refine tr_bipush C (v := -11) dX4_heap_46 (by decide) ?_
          exact tr_iret C hr hlk dX4_heap_48
def fX4_isUnder_L4 (a1 : Int32) (a2 : Int32) (σ : Mem) (ih4 : Int32 × Int32 → Option (Int32)) : Int32 × Int32 → Option (Int32) := fun v => match v with
  | (y2_4, y3_4) =>
    if 6 ≤ y3_4 then (
      some 0
    ) else (
      if y2_4 = a2 then (
        some 1
      ) else (
        bn1 (fX4_within y2_4 0 5 σ) fun r1 => (
          if r1 = 0 then (
            some 0
          ) else (
            gd (inB y2_4 6) (
              ih4 (aboveV y2_4.toNatClampNeg, y3_4 + 1)
            )
          )
        )
      )
    )
def fX4_isUnder (a1 : Int32) (a2 : Int32) (σ : Mem) : Option (Int32) :=
  loopN (fX4_isUnder_L4 a1 a2 σ) 1000 (a1, 0)
set_option maxHeartbeats 4000000 in
set_option maxRecDepth 100000 in
theorem kX4_isUnder (l : Launch) (g : GG) (cs : CS) (ad : Nat → Nat) (a1 : Int32) (a2 : Int32) (σ : Mem) : CtI l g cs ad (shC g) mX4_isUnder (.code mX4_isUnder cX4_isUnder 4 (some .boolean)) { frames := 1, cells := 0, slots := 0, locals := 22 } [.int a1, .int a2] σ (pur (fX4_isUnder a1 a2 σ) σ) := by
  refine ctIP_intro (own := "KinInTheHeap") (by decide +kernel) rfl [some (.int a1), some (.int a2), none, none] (Nat.le_of_ble_eq_true rfl) rfl ?_
  intro p e s m args below meth c A C hr hlk
  refine tr_iload_n C (i := 0) dX4_isUnder_0 rfl rfl ?_
  refine tr_istore_n C (i := 2) (lv' := [some (.int a1), some (.int a2), some (.int a1), none]) dX4_isUnder_1 rfl (by decide) rfl ?_
  refine tr_iconst C (v := 0) dX4_isUnder_2 (by decide) ?_
  refine tr_istore_n C (i := 3) (lv' := [some (.int a1), some (.int a2), some (.int a1), some (.int 0)]) dX4_isUnder_3 rfl (by decide) rfl ?_
  refine tr_mask [false, true, true, true] rfl ?_
  refine tr_loop (b := fX4_isUnder_L4 a1 a2 σ) (sg := fun v => σ) (lw := fun v => [none, some (.int a2), some (.int v.1), some (.int v.2)]) (sw := fun v => []) (fun ih4 IH4 v => ?_) 1000 (a1, 0)
  obtain ⟨y2_4, y3_4⟩ := v
  refine tr_st (σ' := σ) (lv' := [none, some (.int a2), some (.int y2_4), some (.int y3_4)]) (st' := []) rfl rfl rfl ?_
  refine tr_iload_n C (i := 3) dX4_isUnder_4 rfl rfl ?_
  refine tr_bipush C (v := 6) dX4_isUnder_5 (by decide) ?_
  refine tr_icmp_ge C (tgt := 40) dX4_isUnder_7 (by decide) (fun q5 => ?_) (fun q5 => ?_)
  · refine tr_iconst C (v := 0) dX4_isUnder_40 (by decide) ?_
    exact tr_zretP C hr hlk rfl dX4_isUnder_41
  · refine tr_iload_n C (i := 2) dX4_isUnder_10 rfl rfl ?_
    refine tr_iload_n C (i := 1) dX4_isUnder_11 rfl rfl ?_
    refine tr_icmp_ne C (tgt := 17) dX4_isUnder_12 (by decide) (fun q4 => ?_) (fun q4 => ?_)
    · refine tr_iconst C (v := 1) dX4_isUnder_15 (by decide) ?_
      exact tr_zretP C hr hlk rfl dX4_isUnder_16
    · refine tr_iload_n C (i := 2) dX4_isUnder_17 rfl rfl ?_
      refine tr_iconst C (v := 0) dX4_isUnder_18 (by decide) ?_
      refine tr_iconst C (v := 5) dX4_isUnder_19 (by decide) ?_
      refine tr_cSIP C (av := [.int y2_4, .int 0, .int 5]) (st := []) (kX4_within l g cs ad y2_4 0 5 σ) mwX4_within w300 ⟨rfl, rfl⟩ ⟨(Nat.le_of_ble_eq_true rfl), (Nat.le_of_ble_eq_true rfl)⟩ rfl rfl (Nat.le_of_ble_eq_true rfl) dX4_isUnder_20 (fun r1 hr1 => ?_)
      refine tr_if_ne C (tgt := 28) dX4_isUnder_23 (by decide) (fun q3 => ?_) (fun q3 => ?_)
      · refine tr_iconst C (v := 0) dX4_isUnder_26 (by decide) ?_
        exact tr_zretP C hr hlk rfl dX4_isUnder_27
      · refine tr_gABOVE C w937 dX4_isUnder_28 ?_
        refine tr_iload_n C (i := 2) dX4_isUnder_31 rfl rfl ?_
        refine tr_aboveld C dX4_isUnder_32 (fun h2 => ?_)
        refine tr_istore_n C (i := 2) (lv' := [none, some (.int a2), some (.int (aboveV y2_4.toNatClampNeg)), some (.int y3_4)]) dX4_isUnder_33 rfl (by decide) rfl ?_
        refine tr_iinc C (i := 3) (d := 1) (lv' := [none, some (.int a2), some (.int (aboveV y2_4.toNatClampNeg)), some (.int (y3_4 + 1))]) dX4_isUnder_34 rfl (by decide) (by decide) rfl ?_
        refine tr_goto C (tgt := 4) dX4_isUnder_37 (by decide) ?_
        exact IH4 (aboveV y2_4.toNatClampNeg, y3_4 + 1)
def fX4_taken (a1 : Int32) (a2 : Int32) (σ : Mem) : Option (Int32) :=
  bn1 (fX4_within a2 0 5 σ) fun r1 => (
    if r1 = 0 then (
      some (-2)
    ) else (
      bn1 (fX0_has 40 a1 σ) fun r2 => (
        if r2 = 0 then (
          some (-11)
        ) else (
          gd (inB a1 8) (
            bn1 (fX4_isUnder (rd σ 41 a1) a2 σ) fun r3 => (
              if r3 = 0 then (
                some (-13)
              ) else (
                gd (inB a1 8) (
                  some (rd σ 42 a1)
                )
              )
            )
          )
        )
      )
    )
  )
set_option maxHeartbeats 4000000 in
set_option maxRecDepth 100000 in
theorem kX4_taken (l : Launch) (g : GG) (cs : CS) (ad : Nat → Nat) (a1 : Int32) (a2 : Int32) (σ : Mem) : CtI l g cs ad (shC g) mX4_taken (.code mX4_taken cX4_taken 3 (some .int)) { frames := 2, cells := 0, slots := 0, locals := 45 } [.ref (ad 0), .int a1, .int a2] σ (pur (fX4_taken a1 a2 σ) σ) := by
  refine ctIP_intro (own := "KinInTheHeap") (by decide +kernel) rfl [some (.ref (ad 0)), some (.int a1), some (.int a2)] (Nat.le_of_ble_eq_true rfl) rfl ?_
  intro p e s m args below meth c A C hr hlk
  refine tr_iload_n C (i := 2) dX4_taken_0 rfl rfl ?_
  refine tr_iconst C (v := 0) dX4_taken_1 (by decide) ?_
  refine tr_iconst C (v := 5) dX4_taken_2 (by decide) ?_
  refine tr_cSIP C (av := [.int a2, .int 0, .int 5]) (st := []) (kX4_within l g cs ad a2 0 5 σ) mwX4_within w300 ⟨rfl, rfl⟩ ⟨(Nat.le_of_ble_eq_true rfl), (Nat.le_of_ble_eq_true rfl)⟩ rfl rfl (Nat.le_of_ble_eq_true rfl) dX4_taken_3 (fun r1 hr1 => ?_)
  refine tr_if_ne C (tgt := 12) dX4_taken_6 (by decide) (fun q8 => ?_) (fun q8 => ?_)
  · refine tr_bipush C (v := -2) dX4_taken_9 (by decide) ?_
    exact tr_iretP C hr hlk dX4_taken_11
  · refine tr_aload_n C (i := 0) dX4_taken_12 rfl rfl ?_
    refine tr_getR C (k := 3) (ci := 4) rfl rfl rfl inT4 rfl (by decide) w267 dX4_taken_13 ?_
    refine tr_iload_n C (i := 1) dX4_taken_16 rfl rfl ?_
    refine tr_cVIP C (av := [.int a1]) (st := []) (kX0_has l g cs ad 40 a1 fl40 σ) mwX0_has w323 (fl_0 fl40) rfl ⟨rfl, rfl⟩ ⟨(Nat.le_of_ble_eq_true rfl), (Nat.le_of_ble_eq_true rfl)⟩ rfl rfl (Nat.le_of_ble_eq_true rfl) dX4_taken_17 (fun r2 hr2 => ?_)
    refine tr_if_ne C (tgt := 26) dX4_taken_20 (by decide) (fun q7 => ?_) (fun q7 => ?_)
    · refine tr_bipush C (v := -11) dX4_taken_23 (by decide) ?_
      exact tr_iretP C hr hlk dX4_taken_25
    · refine tr_aload_n C (i := 0) dX4_taken_26 rfl rfl ?_
      refine tr_getR C (k := 3) (ci := 4) rfl rfl rfl inT4 rfl (by decide) w267 dX4_taken_27 ?_
      refine tr_getR C (k := 0) (ci := 0) (fl_0 fl40) rfl rfl inT0 rfl (by decide) w223 dX4_taken_30 ?_
      refine tr_iload_n C (i := 1) dX4_taken_33 rfl rfl ?_
      refine tr_iald C (n := 8) (fl_1 fl40) dX4_taken_34 (fun h6 => ?_)
      refine tr_iload_n C (i := 2) dX4_taken_35 rfl rfl ?_
      refine tr_cSIP C (av := [.int (rd σ 41 a1), .int a2]) (st := []) (kX4_isUnder l g cs ad (rd σ 41 a1) a2 σ) mwX4_isUnder w934 ⟨rfl, rfl⟩ ⟨(Nat.le_of_ble_eq_true rfl), (Nat.le_of_ble_eq_true rfl)⟩ rfl rfl (Nat.le_of_ble_eq_true rfl) dX4_taken_36 (fun r3 hr3 => ?_)
      refine tr_if_eq C (tgt := 54) dX4_taken_39 (by decide) (fun q5 => ?_) (fun q5 => ?_)
      · refine tr_bipush C (v := -13) dX4_taken_54 (by decide) ?_
        exact tr_iretP C hr hlk dX4_taken_56
      · refine tr_aload_n C (i := 0) dX4_taken_42 rfl rfl ?_
        refine tr_getR C (k := 3) (ci := 4) rfl rfl rfl inT4 rfl (by decide) w267 dX4_taken_43 ?_
        refine tr_getR C (k := 1) (ci := 0) (fl_0 fl40) rfl rfl inT0 rfl (by decide) w225 dX4_taken_46 ?_
        refine tr_iload_n C (i := 1) dX4_taken_49 rfl rfl ?_
        refine tr_iald C (n := 8) (fl_2 fl40) dX4_taken_50 (fun h4 => ?_)
        refine tr_goto C (tgt := 56) dX4_taken_51 (by decide) ?_
        exact tr_iretP C hr hlk dX4_taken_56
