def fX0_become (b : Nat) (b1 : Nat) (σ : Mem) : Option (Mem) :=
  gd (cpOk 0 0 8 8 8) (
    stp (cpy σ (b1 + 1) 0 (b + 1) 0 8) fun σw1 => (
      gd (cpOk 0 0 8 8 8) (
        stp (cpy σw1 (b1 + 2) 0 (b + 2) 0 8) fun σw2 => (
          gd (cpOk 0 0 8 8 8) (
            stp (cpy σw2 (b1 + 3) 0 (b + 3) 0 8) fun σw3 => (
              stp (putL σw3 b 3 (σw3.2 b1 3)) fun σw4 => (
                stp (putI σw4 b 4 (σw4.1 b1 4)) fun σw5 => (
                  stp (putI σw5 b 5 (σw5.1 b1 5)) fun σw6 => (
                    stp (putI σw6 b 6 (σw6.1 b1 6)) fun σw7 => (
                      stp (putI σw7 b 7 (σw7.1 b1 7)) fun σw8 => (
                        some σw8
                      )
                    )
                  )
                )
              )
            )
          )
        )
      )
    )
  )
set_option maxHeartbeats 4000000 in
set_option maxRecDepth 100000 in
theorem kX0_become (l : Launch) (g : GG) (cs : CS) (ad : Nat → Nat) (b : Nat) (b1 : Nat) (hb : isFl b) (hb1 : isFl b1) (σ : Mem) : CtV l g cs ad (shC g) mX0_become (.code mX0_become cX0_become 2 none) { frames := 1, cells := 0, slots := 0, locals := 68 } [.ref (ad b), .ref (ad b1)] σ (fX0_become b b1 σ) := by
  refine ctV_intro (own := "KinInTheHeap$Floor") (by decide +kernel) rfl [some (.ref (ad b)), some (.ref (ad b1))] (Nat.le_of_ble_eq_true rfl) rfl ?_
  intro p e s m args below meth c A C hr hlk
  refine tr_aload_n C (i := 1) dX0_become_0 rfl rfl ?_
  refine tr_getR C (k := 0) (ci := 0) (fl_0 hb1) rfl rfl inT0 rfl (by decide) w222 dX0_become_1 ?_
  refine tr_iconst C (v := 0) dX0_become_4 (by decide) ?_
  refine tr_aload_n C (i := 0) dX0_become_5 rfl rfl ?_
  refine tr_getR C (k := 0) (ci := 0) (fl_0 hb) rfl rfl inT0 rfl (by decide) w222 dX0_become_6 ?_
  refine tr_iconst C (v := 0) dX0_become_9 (by decide) ?_
  refine tr_bipush C (v := 8) dX0_become_10 (by decide) ?_
  refine tr_acopy C (σ' := cpy σ (b1 + 1) 0 (b + 1) 0 8) (fl_1 hb1) (fl_1 hb) w691 (Nat.le_of_ble_eq_true rfl) (Nat.le_of_ble_eq_true rfl) dX0_become_12 rfl ?_
  refine tr_stp (fun σw1 eσw1 => ?_)
  refine tr_aload_n C (i := 1) dX0_become_15 rfl rfl ?_
  refine tr_getR C (k := 1) (ci := 0) (fl_0 hb1) rfl rfl inT0 rfl (by decide) w224 dX0_become_16 ?_
  refine tr_iconst C (v := 0) dX0_become_19 (by decide) ?_
  refine tr_aload_n C (i := 0) dX0_become_20 rfl rfl ?_
  refine tr_getR C (k := 1) (ci := 0) (fl_0 hb) rfl rfl inT0 rfl (by decide) w224 dX0_become_21 ?_
  refine tr_iconst C (v := 0) dX0_become_24 (by decide) ?_
  refine tr_bipush C (v := 8) dX0_become_25 (by decide) ?_
  refine tr_acopy C (σ' := cpy σw1 (b1 + 2) 0 (b + 2) 0 8) (fl_2 hb1) (fl_2 hb) w691 (Nat.le_of_ble_eq_true rfl) (Nat.le_of_ble_eq_true rfl) dX0_become_27 rfl ?_
  refine tr_stp (fun σw2 eσw2 => ?_)
  refine tr_aload_n C (i := 1) dX0_become_30 rfl rfl ?_
  refine tr_getR C (k := 2) (ci := 0) (fl_0 hb1) rfl rfl inT0 rfl (by decide) w226 dX0_become_31 ?_
  refine tr_iconst C (v := 0) dX0_become_34 (by decide) ?_
  refine tr_aload_n C (i := 0) dX0_become_35 rfl rfl ?_
  refine tr_getR C (k := 2) (ci := 0) (fl_0 hb) rfl rfl inT0 rfl (by decide) w226 dX0_become_36 ?_
  refine tr_iconst C (v := 0) dX0_become_39 (by decide) ?_
  refine tr_bipush C (v := 8) dX0_become_40 (by decide) ?_
  refine tr_acopy C (σ' := cpy σw2 (b1 + 3) 0 (b + 3) 0 8) (fl_3 hb1) (fl_3 hb) w691 (Nat.le_of_ble_eq_true rfl) (Nat.le_of_ble_eq_true rfl) dX0_become_42 rfl ?_
  refine tr_stp (fun σw3 eσw3 => ?_)
  refine tr_aload_n C (i := 0) dX0_become_45 rfl rfl ?_
  refine tr_aload_n C (i := 1) dX0_become_46 rfl rfl ?_
  refine tr_getL C (k := 3) (ci := 0) (fl_0 hb1) rfl rfl inT0 rfl (by decide) w228 dX0_become_47 ?_
  refine tr_putL C (k := 3) (ci := 0) (σ' := putL σw3 b 3 (σw3.2 b1 3)) (fl_0 hb) rfl rfl inT0 rfl (by decide) tyX0 tyX0_ok nmX0 rfl rfl w228 dX0_become_50 rfl ?_
  refine tr_stp (fun σw4 eσw4 => ?_)
  refine tr_aload_n C (i := 0) dX0_become_53 rfl rfl ?_
  refine tr_aload_n C (i := 1) dX0_become_54 rfl rfl ?_
  refine tr_getI C (k := 4) (ci := 0) (fl_0 hb1) rfl rfl inT0 rfl (by decide) w230 dX0_become_55 ?_
  refine tr_putI C (k := 4) (ci := 0) (σ' := putI σw4 b 4 (σw4.1 b1 4)) (fl_0 hb) rfl rfl inT0 rfl (by decide) tyX0 tyX0_ok nmX0 rfl rfl w230 dX0_become_58 rfl ?_
  refine tr_stp (fun σw5 eσw5 => ?_)
  refine tr_aload_n C (i := 0) dX0_become_61 rfl rfl ?_
  refine tr_aload_n C (i := 1) dX0_become_62 rfl rfl ?_
  refine tr_getI C (k := 5) (ci := 0) (fl_0 hb1) rfl rfl inT0 rfl (by decide) w232 dX0_become_63 ?_
  refine tr_putI C (k := 5) (ci := 0) (σ' := putI σw5 b 5 (σw5.1 b1 5)) (fl_0 hb) rfl rfl inT0 rfl (by decide) tyX0 tyX0_ok nmX0 rfl rfl w232 dX0_become_66 rfl ?_
  refine tr_stp (fun σw6 eσw6 => ?_)
  refine tr_aload_n C (i := 0) dX0_become_69 rfl rfl ?_
  refine tr_aload_n C (i := 1) dX0_become_70 rfl rfl ?_
  refine tr_getI C (k := 6) (ci := 0) (fl_0 hb1) rfl rfl inT0 rfl (by decide) w234 dX0_become_71 ?_
  refine tr_putI C (k := 6) (ci := 0) (σ' := putI σw6 b 6 (σw6.1 b1 6)) (fl_0 hb) rfl rfl inT0 rfl (by decide) tyX0 tyX0_ok nmX0 rfl rfl w234 dX0_become_74 rfl ?_
  refine tr_stp (fun σw7 eσw7 => ?_)
  refine tr_aload_n C (i := 0) dX0_become_77 rfl rfl ?_
  refine tr_aload_n C (i := 1) dX0_become_78 rfl rfl ?_
  refine tr_getI C (k := 7) (ci := 0) (fl_0 hb1) rfl rfl inT0 rfl (by decide) w236 dX0_become_79 ?_
  refine tr_putI C (k := 7) (ci := 0) (σ' := putI σw7 b 7 (σw7.1 b1 7)) (fl_0 hb) rfl rfl inT0 rfl (by decide) tyX0 tyX0_ok nmX0 rfl rfl w236 dX0_become_82 rfl ?_
  refine tr_stp (fun σw8 eσw8 => ?_)
  exact tr_vret C hr hlk dX0_become_85
def fX0_add (b : Nat) (a1 : Int32) (a2 : Int32) (a3 : Int32) (σ : Mem) : Option (Int32 × Mem) :=
  if (σ.1 b 7) < 8 then (
    gd (inB (σ.1 b 7) 8) (stp (wr σ (b + 1) (σ.1 b 7) a1) fun σw1 => (
      gd (inB (σw1.1 b 7) 8) (stp (wr σw1 (b + 2) (σw1.1 b 7) a2) fun σw2 => (
        gd (inB (σw2.1 b 7) 8) (stp (wr σw2 (b + 3) (σw2.1 b 7) a3) fun σw3 => (
          stp (putI σw3 b 7 ((σw3.1 b 7) + 1)) fun σw4 => (
            some (1, σw4)
          )
        ))
      ))
    ))
  ) else (
    some (0, σ)
  )
set_option maxHeartbeats 4000000 in
set_option maxRecDepth 100000 in
theorem kX0_add (l : Launch) (g : GG) (cs : CS) (ad : Nat → Nat) (b : Nat) (a1 : Int32) (a2 : Int32) (a3 : Int32) (hb : isFl b) (σ : Mem) : CtI l g cs ad (shC g) mX0_add (.code mX0_add cX0_add 4 (some .boolean)) { frames := 0, cells := 0, slots := 0, locals := 0 } [.ref (ad b), .int a1, .int a2, .int a3] σ (fX0_add b a1 a2 a3 σ) := by
  refine ctI_intro (own := "KinInTheHeap$Floor") (by decide +kernel) rfl [some (.ref (ad b)), some (.int a1), some (.int a2), some (.int a3)] (Nat.le_of_ble_eq_true rfl) rfl ?_
  intro p e s m args below meth c A C hr hlk
  refine tr_aload_n C (i := 0) dX0_add_0 rfl rfl ?_
  refine tr_getI C (k := 7) (ci := 0) (fl_0 hb) rfl rfl inT0 rfl (by decide) w236 dX0_add_1 ?_
  refine tr_bipush C (v := 8) dX0_add_4 (by decide) ?_
  refine tr_icmp_lt C (tgt := 11) dX0_add_6 (by decide) (fun q8 => ?_) (fun q8 => ?_)
  · refine tr_aload_n C (i := 0) dX0_add_11 rfl rfl ?_
    refine tr_getR C (k := 0) (ci := 0) (fl_0 hb) rfl rfl inT0 rfl (by decide) w222 dX0_add_12 ?_
    refine tr_aload_n C (i := 0) dX0_add_15 rfl rfl ?_
    refine tr_getI C (k := 7) (ci := 0) (fl_0 hb) rfl rfl inT0 rfl (by decide) w236 dX0_add_16 ?_
    refine tr_iload_n C (i := 1) dX0_add_19 rfl rfl ?_
    refine tr_iast C (n := 8) (σ' := wr σ (b + 1) (σ.1 b 7) a1) (fl_1 hb) dX0_add_20 rfl (fun h7 => ?_)
    refine tr_stp (fun σw1 eσw1 => ?_)
    refine tr_aload_n C (i := 0) dX0_add_21 rfl rfl ?_
    refine tr_getR C (k := 1) (ci := 0) (fl_0 hb) rfl rfl inT0 rfl (by decide) w224 dX0_add_22 ?_
    refine tr_aload_n C (i := 0) dX0_add_25 rfl rfl ?_
    refine tr_getI C (k := 7) (ci := 0) (fl_0 hb) rfl rfl inT0 rfl (by decide) w236 dX0_add_26 ?_
    refine tr_iload_n C (i := 2) dX0_add_29 rfl rfl ?_
    refine tr_iast C (n := 8) (σ' := wr σw1 (b + 2) (σw1.1 b 7) a2) (fl_2 hb) dX0_add_30 rfl (fun h6 => ?_)
    refine tr_stp (fun σw2 eσw2 => ?_)
    refine tr_aload_n C (i := 0) dX0_add_31 rfl rfl ?_
    refine tr_getR C (k := 2) (ci := 0) (fl_0 hb) rfl rfl inT0 rfl (by decide) w226 dX0_add_32 ?_
    refine tr_aload_n C (i := 0) dX0_add_35 rfl rfl ?_
    refine tr_getI C (k := 7) (ci := 0) (fl_0 hb) rfl rfl inT0 rfl (by decide) w236 dX0_add_36 ?_
    refine tr_iload_n C (i := 3) dX0_add_39 rfl rfl ?_
    refine tr_iast C (n := 8) (σ' := wr σw2 (b + 3) (σw2.1 b 7) a3) (fl_3 hb) dX0_add_40 rfl (fun h5 => ?_)
    refine tr_stp (fun σw3 eσw3 => ?_)
    refine tr_aload_n C (i := 0) dX0_add_41 rfl rfl ?_
    refine tr_dup C dX0_add_42 rfl ?_
    refine tr_getI C (k := 7) (ci := 0) (fl_0 hb) rfl rfl inT0 rfl (by decide) w236 dX0_add_43 ?_
    refine tr_iconst C (v := 1) dX0_add_46 (by decide) ?_
    refine tr_iadd C dX0_add_47 ?_
    refine tr_putI C (k := 7) (ci := 0) (σ' := putI σw3 b 7 ((σw3.1 b 7) + 1)) (fl_0 hb) rfl rfl inT0 rfl (by decide) tyX0 tyX0_ok nmX0 rfl rfl w236 dX0_add_48 rfl ?_
    refine tr_stp (fun σw4 eσw4 => ?_)
    refine tr_iconst C (v := 1) dX0_add_51 (by decide) ?_
    exact tr_zret C hr hlk rfl dX0_add_52
  · refine tr_iconst C (v := 0) dX0_add_9 (by decide) ?_
    exact tr_zret C hr hlk rfl dX0_add_10
def fX4_within (a1 : Int32) (a2 : Int32) (a3 : Int32) (σ : Mem) : Option (Int32) :=
  if a1 < a2 then (
    some 0
  ) else (
    if a3 < a1 then (
      some 0
    ) else (
      some 1
    )
  )
set_option maxHeartbeats 4000000 in
set_option maxRecDepth 100000 in
theorem kX4_within (l : Launch) (g : GG) (cs : CS) (ad : Nat → Nat) (a1 : Int32) (a2 : Int32) (a3 : Int32) (σ : Mem) : CtI l g cs ad (shC g) mX4_within (.code mX4_within cX4_within 3 (some .boolean)) { frames := 0, cells := 0, slots := 0, locals := 0 } [.int a1, .int a2, .int a3] σ (pur (fX4_within a1 a2 a3 σ) σ) := by
  refine ctIP_intro (own := "KinInTheHeap") (by decide +kernel) rfl [some (.int a1), some (.int a2), some (.int a3)] (Nat.le_of_ble_eq_true rfl) rfl ?_
  intro p e s m args below meth c A C hr hlk
  refine tr_iload_n C (i := 0) dX4_within_0 rfl rfl ?_
  refine tr_iload_n C (i := 1) dX4_within_1 rfl rfl ?_
  refine tr_icmp_lt C (tgt := 14) dX4_within_2 (by decide) (fun q2 => ?_) (fun q2 => ?_)
  · refine tr_iconst C (v := 0) dX4_within_14 (by decide) ?_
    exact tr_zretP C hr hlk rfl dX4_within_15
  · refine tr_iload_n C (i := 0) dX4_within_5 rfl rfl ?_
    refine tr_iload_n C (i := 2) dX4_within_6 rfl rfl ?_
    refine tr_icmp_gt C (tgt := 14) dX4_within_7 (by decide) (fun q1 => ?_) (fun q1 => ?_)
    · refine tr_iconst C (v := 0) dX4_within_14 (by decide) ?_
      exact tr_zretP C hr hlk rfl dX4_within_15
    · refine tr_iconst C (v := 1) dX4_within_10 (by decide) ?_
      refine tr_goto C (tgt := 15) dX4_within_11 (by decide) ?_
      exact tr_zretP C hr hlk rfl dX4_within_15
def fX0_has (b : Nat) (a1 : Int32) (σ : Mem) : Option (Int32) :=
  bn1 (fX4_within a1 0 ((σ.1 b 7) - 1) σ) fun r1 => (
    gd (isB r1) (some r1)
  )
set_option maxHeartbeats 4000000 in
set_option maxRecDepth 100000 in
theorem kX0_has (l : Launch) (g : GG) (cs : CS) (ad : Nat → Nat) (b : Nat) (a1 : Int32) (hb : isFl b) (σ : Mem) : CtI l g cs ad (shC g) mX0_has (.code mX0_has cX0_has 2 (some .boolean)) { frames := 1, cells := 0, slots := 0, locals := 22 } [.ref (ad b), .int a1] σ (pur (fX0_has b a1 σ) σ) := by
  refine ctIP_intro (own := "KinInTheHeap$Floor") (by decide +kernel) rfl [some (.ref (ad b)), some (.int a1)] (Nat.le_of_ble_eq_true rfl) rfl ?_
  intro p e s m args below meth c A C hr hlk
  refine tr_iload_n C (i := 1) dX0_has_0 rfl rfl ?_
  refine tr_iconst C (v := 0) dX0_has_1 (by decide) ?_
  refine tr_aload_n C (i := 0) dX0_has_2 rfl rfl ?_
  refine tr_getI C (k := 7) (ci := 0) (fl_0 hb) rfl rfl inT0 rfl (by decide) w236 dX0_has_3 ?_
  refine tr_iconst C (v := 1) dX0_has_6 (by decide) ?_
  refine tr_isub C dX0_has_7 ?_
  refine tr_cNIP C (av := [.int a1, .int 0, .int ((σ.1 b 7) - 1)]) (st := []) (kX4_within l g cs ad a1 0 ((σ.1 b 7) - 1) σ) mwX4_within (C.2.1.2.1.1) ⟨rfl, rfl⟩ ⟨(Nat.le_of_ble_eq_true rfl), (Nat.le_of_ble_eq_true rfl)⟩ rfl rfl (Nat.le_of_ble_eq_true rfl) dX0_has_8 (fun r1 hr1 => ?_)
  exact tr_zretPG C hr hlk dX0_has_11
def fX0_isIn (b : Nat) (a1 : Int32) (σ : Mem) : Option (Int32) :=
  bn1 (fX0_has b a1 σ) fun r1 => (
    if r1 = 0 then (
      some 0
    ) else (
      gd (inB a1 8) (
        if (rd σ (b + 3) a1) = (-1) then (
          some 0
        ) else (
          some 1
        )
      )
    )
  )
set_option maxHeartbeats 4000000 in
set_option maxRecDepth 100000 in
theorem kX0_isIn (l : Launch) (g : GG) (cs : CS) (ad : Nat → Nat) (b : Nat) (a1 : Int32) (hb : isFl b) (σ : Mem) : CtI l g cs ad (shC g) mX0_isIn (.code mX0_isIn cX0_isIn 2 (some .boolean)) { frames := 2, cells := 0, slots := 0, locals := 43 } [.ref (ad b), .int a1] σ (pur (fX0_isIn b a1 σ) σ) := by
  refine ctIP_intro (own := "KinInTheHeap$Floor") (by decide +kernel) rfl [some (.ref (ad b)), some (.int a1)] (Nat.le_of_ble_eq_true rfl) rfl ?_
  intro p e s m args below meth c A C hr hlk
  refine tr_aload_n C (i := 0) dX0_isIn_0 rfl rfl ?_
  refine tr_iload_n C (i := 1) dX0_isIn_1 rfl rfl ?_
  refine tr_cVIP C (av := [.int a1]) (st := []) (kX0_has l g cs ad b a1 hb σ) mwX0_has w367 (fl_0 hb) rfl ⟨rfl, rfl⟩ ⟨(Nat.le_of_ble_eq_true rfl), (Nat.le_of_ble_eq_true rfl)⟩ rfl rfl (Nat.le_of_ble_eq_true rfl) dX0_isIn_2 (fun r1 hr1 => ?_)
  refine tr_if_eq C (tgt := 22) dX0_isIn_5 (by decide) (fun q4 => ?_) (fun q4 => ?_)
  · refine tr_iconst C (v := 0) dX0_isIn_22 (by decide) ?_
    exact tr_zretP C hr hlk rfl dX0_isIn_23
  · refine tr_aload_n C (i := 0) dX0_isIn_8 rfl rfl ?_
    refine tr_getR C (k := 2) (ci := 0) (fl_0 hb) rfl rfl inT0 rfl (by decide) w226 dX0_isIn_9 ?_
    refine tr_iload_n C (i := 1) dX0_isIn_12 rfl rfl ?_
    refine tr_iald C (n := 8) (fl_3 hb) dX0_isIn_13 (fun h3 => ?_)
    refine tr_iconst C (v := -1) dX0_isIn_14 (by decide) ?_
    refine tr_icmp_eq C (tgt := 22) dX0_isIn_15 (by decide) (fun q2 => ?_) (fun q2 => ?_)
    · refine tr_iconst C (v := 0) dX0_isIn_22 (by decide) ?_
      exact tr_zretP C hr hlk rfl dX0_isIn_23
    · refine tr_iconst C (v := 1) dX0_isIn_18 (by decide) ?_
      refine tr_goto C (tgt := 23) dX0_isIn_19 (by decide) ?_
      exact tr_zretP C hr hlk rfl dX0_isIn_23
def fX0_isCracked (b : Nat) (a1 : Int32) (σ : Mem) : Option (Int32) :=
  if (lg_cmp ((((σ.2 b 3).toUInt64 >>> (a1.toInt64.toUInt64 &&& Int64.toUInt64 63)).toInt64) &&& 1) 0) = 0 then (
    some 0
  ) else (
    some 1
  )
set_option maxHeartbeats 4000000 in
set_option maxRecDepth 100000 in
theorem kX0_isCracked (l : Launch) (g : GG) (cs : CS) (ad : Nat → Nat) (b : Nat) (a1 : Int32) (hb : isFl b) (σ : Mem) : CtI l g cs ad (shC g) mX0_isCracked (.code mX0_isCracked cX0_isCracked 2 (some .boolean)) { frames := 0, cells := 0, slots := 0, locals := 0 } [.ref (ad b), .int a1] σ (pur (fX0_isCracked b a1 σ) σ) := by
  refine ctIP_intro (own := "KinInTheHeap$Floor") (by decide +kernel) rfl [some (.ref (ad b)), some (.int a1)] (Nat.le_of_ble_eq_true rfl) rfl ?_
  intro p e s m args below meth c A C hr hlk
  refine tr_aload_n C (i := 0) dX0_isCracked_0 rfl rfl ?_
  refine tr_getL C (k := 3) (ci := 0) (fl_0 hb) rfl rfl inT0 rfl (by decide) w228 dX0_isCracked_1 ?_
  refine tr_iload_n C (i := 1) dX0_isCracked_4 rfl rfl ?_
  refine tr_lushr C dX0_isCracked_5 ?_
  refine tr_lconst C (v := 1) dX0_isCracked_6 (by decide) ?_
  refine tr_land C dX0_isCracked_7 ?_
  refine tr_lconst C (v := 0) dX0_isCracked_8 (by decide) ?_
  refine tr_lcmp C dX0_isCracked_9 ?_
  refine tr_if_eq C (tgt := 17) dX0_isCracked_10 (by decide) (fun q1 => ?_) (fun q1 => ?_)
  · refine tr_iconst C (v := 0) dX0_isCracked_17 (by decide) ?_
    exact tr_zretP C hr hlk rfl dX0_isCracked_18
  · refine tr_iconst C (v := 1) dX0_isCracked_13 (by decide) ?_
    refine tr_goto C (tgt := 18) dX0_isCracked_14 (by decide) ?_
    exact tr_zretP C hr hlk rfl dX0_isCracked_18
def fX0_thoseIn_L4 (b : Nat) (a1 : Int32) (σ : Mem) (ih4 : Int32 × Int32 → Option (Int32)) : Int32 × Int32 → Option (Int32) := fun v => match v with
  | (y2_4, y3_4) =>
    if (σ.1 b 7) ≤ y3_4 then (
      some y2_4
    ) else (
      gd (inB y3_4 8) (
        if (rd σ (b + 3) y3_4) = a1 then (
          ih4 (y2_4 ||| (1 <<< (y3_4 &&& 31)), y3_4 + 1)
        ) else (
          ih4 (y2_4, y3_4 + 1)
        )
      )
    )
def fX0_thoseIn (b : Nat) (a1 : Int32) (σ : Mem) : Option (Int32) :=
  loopN (fX0_thoseIn_L4 b a1 σ) 1000 (0, 0)
set_option maxHeartbeats 4000000 in
set_option maxRecDepth 100000 in
theorem kX0_thoseIn (l : Launch) (g : GG) (cs : CS) (ad : Nat → Nat) (b : Nat) (a1 : Int32) (hb : isFl b) (σ : Mem) : CtI l g cs ad (shC g) mX0_thoseIn (.code mX0_thoseIn cX0_thoseIn 4 (some .int)) { frames := 0, cells := 0, slots := 0, locals := 0 } [.ref (ad b), .int a1] σ (pur (fX0_thoseIn b a1 σ) σ) := by
  refine ctIP_intro (own := "KinInTheHeap$Floor") (by decide +kernel) rfl [some (.ref (ad b)), some (.int a1), none, none] (Nat.le_of_ble_eq_true rfl) rfl ?_
  intro p e s m args below meth c A C hr hlk
  refine tr_iconst C (v := 0) dX0_thoseIn_0 (by decide) ?_
  refine tr_istore_n C (i := 2) (lv' := [some (.ref (ad b)), some (.int a1), some (.int 0), none]) dX0_thoseIn_1 rfl (by decide) rfl ?_
  refine tr_iconst C (v := 0) dX0_thoseIn_2 (by decide) ?_
  refine tr_istore_n C (i := 3) (lv' := [some (.ref (ad b)), some (.int a1), some (.int 0), some (.int 0)]) dX0_thoseIn_3 rfl (by decide) rfl ?_
  refine tr_loop (b := fX0_thoseIn_L4 b a1 σ) (sg := fun v => σ) (lw := fun v => [some (.ref (ad b)), some (.int a1), some (.int v.1), some (.int v.2)]) (sw := fun v => []) (fun ih4 IH4 v => ?_) 1000 (0, 0)
  obtain ⟨y2_4, y3_4⟩ := v
  refine tr_st (σ' := σ) (lv' := [some (.ref (ad b)), some (.int a1), some (.int y2_4), some (.int y3_4)]) (st' := []) rfl rfl rfl ?_
  refine tr_iload_n C (i := 3) dX0_thoseIn_4 rfl rfl ?_
  refine tr_aload_n C (i := 0) dX0_thoseIn_5 rfl rfl ?_
  refine tr_getI C (k := 7) (ci := 0) (fl_0 hb) rfl rfl inT0 rfl (by decide) w236 dX0_thoseIn_6 ?_
  refine tr_icmp_ge C (tgt := 34) dX0_thoseIn_9 (by decide) (fun q3 => ?_) (fun q3 => ?_)
  · refine tr_iload_n C (i := 2) dX0_thoseIn_34 rfl rfl ?_
    exact tr_iretP C hr hlk dX0_thoseIn_35
  · refine tr_aload_n C (i := 0) dX0_thoseIn_12 rfl rfl ?_
    refine tr_getR C (k := 2) (ci := 0) (fl_0 hb) rfl rfl inT0 rfl (by decide) w226 dX0_thoseIn_13 ?_
    refine tr_iload_n C (i := 3) dX0_thoseIn_16 rfl rfl ?_
    refine tr_iald C (n := 8) (fl_3 hb) dX0_thoseIn_17 (fun h2 => ?_)
    refine tr_iload_n C (i := 1) dX0_thoseIn_18 rfl rfl ?_
    refine tr_icmp_ne C (tgt := 28) dX0_thoseIn_19 (by decide) (fun q1 => ?_) (fun q1 => ?_)
    · refine tr_iload_n C (i := 2) dX0_thoseIn_22 rfl rfl ?_
      refine tr_iconst C (v := 1) dX0_thoseIn_23 (by decide) ?_
      refine tr_iload_n C (i := 3) dX0_thoseIn_24 rfl rfl ?_
      refine tr_ishl C dX0_thoseIn_25 ?_
      refine tr_ior C dX0_thoseIn_26 ?_
      refine tr_istore_n C (i := 2) (lv' := [some (.ref (ad b)), some (.int a1), some (.int (y2_4 ||| (1 <<< (y3_4 &&& 31)))), some (.int y3_4)]) dX0_thoseIn_27 rfl (by decide) rfl ?_
      refine tr_iinc C (i := 3) (d := 1) (lv' := [some (.ref (ad b)), some (.int a1), some (.int (y2_4 ||| (1 <<< (y3_4 &&& 31)))), some (.int (y3_4 + 1))]) dX0_thoseIn_28 rfl (by decide) (by decide) rfl ?_
      refine tr_goto C (tgt := 4) dX0_thoseIn_31 (by decide) ?_
      exact IH4 (y2_4 ||| (1 <<< (y3_4 &&& 31)), y3_4 + 1)
    · refine tr_iinc C (i := 3) (d := 1) (lv' := [some (.ref (ad b)), some (.int a1), some (.int y2_4), some (.int (y3_4 + 1))]) dX0_thoseIn_28 rfl (by decide) (by decide) rfl ?_
      refine tr_goto C (tgt := 4) dX0_thoseIn_31 (by decide) ?_
      exact IH4 (y2_4, y3_4 + 1)
def fJ6_bitCount_0f7a4 (a1 : Int32) (σ : Mem) : Option (Int32) :=
  some ((((((((a1 - (((a1.toUInt32 >>> ((1 : Int32).toUInt32 &&& Int32.toUInt32 31)).toInt32) &&& 1431655765)) &&& 858993459) + ((((a1 - (((a1.toUInt32 >>> ((1 : Int32).toUInt32 &&& Int32.toUInt32 31)).toInt32) &&& 1431655765)).toUInt32 >>> ((2 : Int32).toUInt32 &&& Int32.toUInt32 31)).toInt32) &&& 858993459)) + (((((a1 - (((a1.toUInt32 >>> ((1 : Int32).toUInt32 &&& Int32.toUInt32 31)).toInt32) &&& 1431655765)) &&& 858993459) + ((((a1 - (((a1.toUInt32 >>> ((1 : Int32).toUInt32 &&& Int32.toUInt32 31)).toInt32) &&& 1431655765)).toUInt32 >>> ((2 : Int32).toUInt32 &&& Int32.toUInt32 31)).toInt32) &&& 858993459)).toUInt32 >>> ((4 : Int32).toUInt32 &&& Int32.toUInt32 31)).toInt32)) &&& 252645135) + (((((((a1 - (((a1.toUInt32 >>> ((1 : Int32).toUInt32 &&& Int32.toUInt32 31)).toInt32) &&& 1431655765)) &&& 858993459) + ((((a1 - (((a1.toUInt32 >>> ((1 : Int32).toUInt32 &&& Int32.toUInt32 31)).toInt32) &&& 1431655765)).toUInt32 >>> ((2 : Int32).toUInt32 &&& Int32.toUInt32 31)).toInt32) &&& 858993459)) + (((((a1 - (((a1.toUInt32 >>> ((1 : Int32).toUInt32 &&& Int32.toUInt32 31)).toInt32) &&& 1431655765)) &&& 858993459) + ((((a1 - (((a1.toUInt32 >>> ((1 : Int32).toUInt32 &&& Int32.toUInt32 31)).toInt32) &&& 1431655765)).toUInt32 >>> ((2 : Int32).toUInt32 &&& Int32.toUInt32 31)).toInt32) &&& 858993459)).toUInt32 >>> ((4 : Int32).toUInt32 &&& Int32.toUInt32 31)).toInt32)) &&& 252645135).toUInt32 >>> ((8 : Int32).toUInt32 &&& Int32.toUInt32 31)).toInt32)) + ((((((((a1 - (((a1.toUInt32 >>> ((1 : Int32).toUInt32 &&& Int32.toUInt32 31)).toInt32) &&& 1431655765)) &&& 858993459) + ((((a1 - (((a1.toUInt32 >>> ((1 : Int32).toUInt32 &&& Int32.toUInt32 31)).toInt32) &&& 1431655765)).toUInt32 >>> ((2 : Int32).toUInt32 &&& Int32.toUInt32 31)).toInt32) &&& 858993459)) + (((((a1 - (((a1.toUInt32 >>> ((1 : Int32).toUInt32 &&& Int32.toUInt32 31)).toInt32) &&& 1431655765)) &&& 858993459) + ((((a1 - (((a1.toUInt32 >>> ((1 : Int32).toUInt32 &&& Int32.toUInt32 31)).toInt32) &&& 1431655765)).toUInt32 >>> ((2 : Int32).toUInt32 &&& Int32.toUInt32 31)).toInt32) &&& 858993459)).toUInt32 >>> ((4 : Int32).toUInt32 &&& Int32.toUInt32 31)).toInt32)) &&& 252645135) + (((((((a1 - (((a1.toUInt32 >>> ((1 : Int32).toUInt32 &&& Int32.toUInt32 31)).toInt32) &&& 1431655765)) &&& 858993459) + ((((a1 - (((a1.toUInt32 >>> ((1 : Int32).toUInt32 &&& Int32.toUInt32 31)).toInt32) &&& 1431655765)).toUInt32 >>> ((2 : Int32).toUInt32 &&& Int32.toUInt32 31)).toInt32) &&& 858993459)) + (((((a1 - (((a1.toUInt32 >>> ((1 : Int32).toUInt32 &&& Int32.toUInt32 31)).toInt32) &&& 1431655765)) &&& 858993459) + ((((a1 - (((a1.toUInt32 >>> ((1 : Int32).toUInt32 &&& Int32.toUInt32 31)).toInt32) &&& 1431655765)).toUInt32 >>> ((2 : Int32).toUInt32 &&& Int32.toUInt32 31)).toInt32) &&& 858993459)).toUInt32 >>> ((4 : Int32).toUInt32 &&& Int32.toUInt32 31)).toInt32)) &&& 252645135).toUInt32 >>> ((8 : Int32).toUInt32 &&& Int32.toUInt32 31)).toInt32)).toUInt32 >>> ((16 : Int32).toUInt32 &&& Int32.toUInt32 31)).toInt32)) &&& 63)
set_option maxHeartbeats 4000000 in
set_option maxRecDepth 100000 in
theorem kJ6_bitCount_0f7a4 (l : Launch) (g : GG) (cs : CS) (ad : Nat → Nat) (a1 : Int32) (σ : Mem) : CtI l g cs ad (shC g) mJ6_bitCount_0f7a4 (.code mJ6_bitCount_0f7a4 cJ6_bitCount_0f7a4 1 (some .int)) { frames := 0, cells := 0, slots := 0, locals := 0 } [.int a1] σ (pur (fJ6_bitCount_0f7a4 a1 σ) σ) := by
  refine ctIP_intro (own := "java/lang/Integer") (by decide +kernel) rfl [some (.int a1)] (Nat.le_of_ble_eq_true rfl) rfl ?_
  intro p e s m args below meth c A C hr hlk
  refine tr_iload_n C (i := 0) dJ6_bitCount_0f7a4_0 rfl rfl ?_
  refine tr_iload_n C (i := 0) dJ6_bitCount_0f7a4_1 rfl rfl ?_
  refine tr_iconst C (v := 1) dJ6_bitCount_0f7a4_2 (by decide) ?_
  refine tr_iushr C dJ6_bitCount_0f7a4_3 ?_
  refine tr_ldcw C (v := 1431655765) w791 dJ6_bitCount_0f7a4_4 ?_
  refine tr_iand C dJ6_bitCount_0f7a4_7 ?_
  refine tr_isub C dJ6_bitCount_0f7a4_8 ?_
  refine tr_istore_n C (i := 0) (lv' := [some (.int (a1 - (((a1.toUInt32 >>> ((1 : Int32).toUInt32 &&& Int32.toUInt32 31)).toInt32) &&& 1431655765)))]) dJ6_bitCount_0f7a4_9 rfl (by decide) rfl ?_
  refine tr_iload_n C (i := 0) dJ6_bitCount_0f7a4_10 rfl rfl ?_
  refine tr_ldcw C (v := 858993459) w792 dJ6_bitCount_0f7a4_11 ?_
  refine tr_iand C dJ6_bitCount_0f7a4_14 ?_
  refine tr_iload_n C (i := 0) dJ6_bitCount_0f7a4_15 rfl rfl ?_
  refine tr_iconst C (v := 2) dJ6_bitCount_0f7a4_16 (by decide) ?_
  refine tr_iushr C dJ6_bitCount_0f7a4_17 ?_
  refine tr_ldcw C (v := 858993459) w792 dJ6_bitCount_0f7a4_18 ?_
  refine tr_iand C dJ6_bitCount_0f7a4_21 ?_
  refine tr_iadd C dJ6_bitCount_0f7a4_22 ?_
  refine tr_istore_n C (i := 0) (lv' := [some (.int (((a1 - (((a1.toUInt32 >>> ((1 : Int32).toUInt32 &&& Int32.toUInt32 31)).toInt32) &&& 1431655765)) &&& 858993459) + ((((a1 - (((a1.toUInt32 >>> ((1 : Int32).toUInt32 &&& Int32.toUInt32 31)).toInt32) &&& 1431655765)).toUInt32 >>> ((2 : Int32).toUInt32 &&& Int32.toUInt32 31)).toInt32) &&& 858993459)))]) dJ6_bitCount_0f7a4_23 rfl (by decide) rfl ?_
  refine tr_iload_n C (i := 0) dJ6_bitCount_0f7a4_24 rfl rfl ?_
  refine tr_iload_n C (i := 0) dJ6_bitCount_0f7a4_25 rfl rfl ?_
  refine tr_iconst C (v := 4) dJ6_bitCount_0f7a4_26 (by decide) ?_
  refine tr_iushr C dJ6_bitCount_0f7a4_27 ?_
  refine tr_iadd C dJ6_bitCount_0f7a4_28 ?_
  refine tr_ldcw C (v := 252645135) w793 dJ6_bitCount_0f7a4_29 ?_
  refine tr_iand C dJ6_bitCount_0f7a4_32 ?_
  refine tr_istore_n C (i := 0) (lv' := [some (.int (((((a1 - (((a1.toUInt32 >>> ((1 : Int32).toUInt32 &&& Int32.toUInt32 31)).toInt32) &&& 1431655765)) &&& 858993459) + ((((a1 - (((a1.toUInt32 >>> ((1 : Int32).toUInt32 &&& Int32.toUInt32 31)).toInt32) &&& 1431655765)).toUInt32 >>> ((2 : Int32).toUInt32 &&& Int32.toUInt32 31)).toInt32) &&& 858993459)) + (((((a1 - (((a1.toUInt32 >>> ((1 : Int32).toUInt32 &&& Int32.toUInt32 31)).toInt32) &&& 1431655765)) &&& 858993459) + ((((a1 - (((a1.toUInt32 >>> ((1 : Int32).toUInt32 &&& Int32.toUInt32 31)).toInt32) &&& 1431655765)).toUInt32 >>> ((2 : Int32).toUInt32 &&& Int32.toUInt32 31)).toInt32) &&& 858993459)).toUInt32 >>> ((4 : Int32).toUInt32 &&& Int32.toUInt32 31)).toInt32)) &&& 252645135))]) dJ6_bitCount_0f7a4_33 rfl (by decide) rfl ?_
  refine tr_iload_n C (i := 0) dJ6_bitCount_0f7a4_34 rfl rfl ?_
  refine tr_iload_n C (i := 0) dJ6_bitCount_0f7a4_35 rfl rfl ?_
  refine tr_bipush C (v := 8) dJ6_bitCount_0f7a4_36 (by decide) ?_
  refine tr_iushr C dJ6_bitCount_0f7a4_38 ?_
  refine tr_iadd C dJ6_bitCount_0f7a4_39 ?_
  refine tr_istore_n C (i := 0) (lv' := [some (.int ((((((a1 - (((a1.toUInt32 >>> ((1 : Int32).toUInt32 &&& Int32.toUInt32 31)).toInt32) &&& 1431655765)) &&& 858993459) + ((((a1 - (((a1.toUInt32 >>> ((1 : Int32).toUInt32 &&& Int32.toUInt32 31)).toInt32) &&& 1431655765)).toUInt32 >>> ((2 : Int32).toUInt32 &&& Int32.toUInt32 31)).toInt32) &&& 858993459)) + (((((a1 - (((a1.toUInt32 >>> ((1 : Int32).toUInt32 &&& Int32.toUInt32 31)).toInt32) &&& 1431655765)) &&& 858993459) + ((((a1 - (((a1.toUInt32 >>> ((1 : Int32).toUInt32 &&& Int32.toUInt32 31)).toInt32) &&& 1431655765)).toUInt32 >>> ((2 : Int32).toUInt32 &&& Int32.toUInt32 31)).toInt32) &&& 858993459)).toUInt32 >>> ((4 : Int32).toUInt32 &&& Int32.toUInt32 31)).toInt32)) &&& 252645135) + (((((((a1 - (((a1.toUInt32 >>> ((1 : Int32).toUInt32 &&& Int32.toUInt32 31)).toInt32) &&& 1431655765)) &&& 858993459) + ((((a1 - (((a1.toUInt32 >>> ((1 : Int32).toUInt32 &&& Int32.toUInt32 31)).toInt32) &&& 1431655765)).toUInt32 >>> ((2 : Int32).toUInt32 &&& Int32.toUInt32 31)).toInt32) &&& 858993459)) + (((((a1 - (((a1.toUInt32 >>> ((1 : Int32).toUInt32 &&& Int32.toUInt32 31)).toInt32) &&& 1431655765)) &&& 858993459) + ((((a1 - (((a1.toUInt32 >>> ((1 : Int32).toUInt32 &&& Int32.toUInt32 31)).toInt32) &&& 1431655765)).toUInt32 >>> ((2 : Int32).toUInt32 &&& Int32.toUInt32 31)).toInt32) &&& 858993459)).toUInt32 >>> ((4 : Int32).toUInt32 &&& Int32.toUInt32 31)).toInt32)) &&& 252645135).toUInt32 >>> ((8 : Int32).toUInt32 &&& Int32.toUInt32 31)).toInt32)))]) dJ6_bitCount_0f7a4_40 rfl (by decide) rfl ?_
  refine tr_iload_n C (i := 0) dJ6_bitCount_0f7a4_41 rfl rfl ?_
  refine tr_iload_n C (i := 0) dJ6_bitCount_0f7a4_42 rfl rfl ?_
  refine tr_bipush C (v := 16) dJ6_bitCount_0f7a4_43 (by decide) ?_
  refine tr_iushr C dJ6_bitCount_0f7a4_45 ?_
  refine tr_iadd C dJ6_bitCount_0f7a4_46 ?_
  refine tr_istore_n C (i := 0) (lv' := [some (.int (((((((a1 - (((a1.toUInt32 >>> ((1 : Int32).toUInt32 &&& Int32.toUInt32 31)).toInt32) &&& 1431655765)) &&& 858993459) + ((((a1 - (((a1.toUInt32 >>> ((1 : Int32).toUInt32 &&& Int32.toUInt32 31)).toInt32) &&& 1431655765)).toUInt32 >>> ((2 : Int32).toUInt32 &&& Int32.toUInt32 31)).toInt32) &&& 858993459)) + (((((a1 - (((a1.toUInt32 >>> ((1 : Int32).toUInt32 &&& Int32.toUInt32 31)).toInt32) &&& 1431655765)) &&& 858993459) + ((((a1 - (((a1.toUInt32 >>> ((1 : Int32).toUInt32 &&& Int32.toUInt32 31)).toInt32) &&& 1431655765)).toUInt32 >>> ((2 : Int32).toUInt32 &&& Int32.toUInt32 31)).toInt32) &&& 858993459)).toUInt32 >>> ((4 : Int32).toUInt32 &&& Int32.toUInt32 31)).toInt32)) &&& 252645135) + (((((((a1 - (((a1.toUInt32 >>> ((1 : Int32).toUInt32 &&& Int32.toUInt32 31)).toInt32) &&& 1431655765)) &&& 858993459) + ((((a1 - (((a1.toUInt32 >>> ((1 : Int32).toUInt32 &&& Int32.toUInt32 31)).toInt32) &&& 1431655765)).toUInt32 >>> ((2 : Int32).toUInt32 &&& Int32.toUInt32 31)).toInt32) &&& 858993459)) + (((((a1 - (((a1.toUInt32 >>> ((1 : Int32).toUInt32 &&& Int32.toUInt32 31)).toInt32) &&& 1431655765)) &&& 858993459) + ((((a1 - (((a1.toUInt32 >>> ((1 : Int32).toUInt32 &&& Int32.toUInt32 31)).toInt32) &&& 1431655765)).toUInt32 >>> ((2 : Int32).toUInt32 &&& Int32.toUInt32 31)).toInt32) &&& 858993459)).toUInt32 >>> ((4 : Int32).toUInt32 &&& Int32.toUInt32 31)).toInt32)) &&& 252645135).toUInt32 >>> ((8 : Int32).toUInt32 &&& Int32.toUInt32 31)).toInt32)) + ((((((((a1 - (((a1.toUInt32 >>> ((1 : Int32).toUInt32 &&& Int32.toUInt32 31)).toInt32) &&& 1431655765)) &&& 858993459) + ((((a1 - (((a1.toUInt32 >>> ((1 : Int32).toUInt32 &&& Int32.toUInt32 31)).toInt32) &&& 1431655765)).toUInt32 >>> ((2 : Int32).toUInt32 &&& Int32.toUInt32 31)).toInt32) &&& 858993459)) + (((((a1 - (((a1.toUInt32 >>> ((1 : Int32).toUInt32 &&& Int32.toUInt32 31)).toInt32) &&& 1431655765)) &&& 858993459) + ((((a1 - (((a1.toUInt32 >>> ((1 : Int32).toUInt32 &&& Int32.toUInt32 31)).toInt32) &&& 1431655765)).toUInt32 >>> ((2 : Int32).toUInt32 &&& Int32.toUInt32 31)).toInt32) &&& 858993459)).toUInt32 >>> ((4 : Int32).toUInt32 &&& Int32.toUInt32 31)).toInt32)) &&& 252645135) + (((((((a1 - (((a1.toUInt32 >>> ((1 : Int32).toUInt32 &&& Int32.toUInt32 31)).toInt32) &&& 1431655765)) &&& 858993459) + ((((a1 - (((a1.toUInt32 >>> ((1 : Int32).toUInt32 &&& Int32.toUInt32 31)).toInt32) &&& 1431655765)).toUInt32 >>> ((2 : Int32).toUInt32 &&& Int32.toUInt32 31)).toInt32) &&& 858993459)) + (((((a1 - (((a1.toUInt32 >>> ((1 : Int32).toUInt32 &&& Int32.toUInt32 31)).toInt32) &&& 1431655765)) &&& 858993459) + ((((a1 - (((a1.toUInt32 >>> ((1 : Int32).toUInt32 &&& Int32.toUInt32 31)).toInt32) &&& 1431655765)).toUInt32 >>> ((2 : Int32).toUInt32 &&& Int32.toUInt32 31)).toInt32) &&& 858993459)).toUInt32 >>> ((4 : Int32).toUInt32 &&& Int32.toUInt32 31)).toInt32)) &&& 252645135).toUInt32 >>> ((8 : Int32).toUInt32 &&& Int32.toUInt32 31)).toInt32)).toUInt32 >>> ((16 : Int32).toUInt32 &&& Int32.toUInt32 31)).toInt32)))]) dJ6_bitCount_0f7a4_47 rfl (by decide) rfl ?_
  refine tr_iload_n C (i := 0) dJ6_bitCount_0f7a4_48 rfl rfl ?_
  refine tr_bipush C (v := 63) dJ6_bitCount_0f7a4_49 (by decide) ?_
  refine tr_iand C dJ6_bitCount_0f7a4_51 ?_
  exact tr_iretP C hr hlk dJ6_bitCount_0f7a4_52
def fX0_outs (b : Nat) (σ : Mem) : Option (Int32) :=
  bn1 (fX0_thoseIn b (-1) σ) fun r1 => (
    bn1 (fJ6_bitCount_0f7a4 r1 σ) fun r2 => (
      some r2
    )
  )
set_option maxHeartbeats 4000000 in
set_option maxRecDepth 100000 in
theorem kX0_outs (l : Launch) (g : GG) (cs : CS) (ad : Nat → Nat) (b : Nat) (hb : isFl b) (σ : Mem) : CtI l g cs ad (shC g) mX0_outs (.code mX0_outs cX0_outs 1 (some .int)) { frames := 1, cells := 0, slots := 0, locals := 23 } [.ref (ad b)] σ (pur (fX0_outs b σ) σ) := by
  refine ctIP_intro (own := "KinInTheHeap$Floor") (by decide +kernel) rfl [some (.ref (ad b))] (Nat.le_of_ble_eq_true rfl) rfl ?_
  intro p e s m args below meth c A C hr hlk
  refine tr_aload_n C (i := 0) dX0_outs_0 rfl rfl ?_
  refine tr_iconst C (v := -1) dX0_outs_1 (by decide) ?_
  refine tr_cVIP C (av := [.int (-1)]) (st := []) (kX0_thoseIn l g cs ad b (-1) hb σ) mwX0_thoseIn w787 (fl_0 hb) rfl ⟨rfl, rfl⟩ ⟨(Nat.le_of_ble_eq_true rfl), (Nat.le_of_ble_eq_true rfl)⟩ rfl rfl (Nat.le_of_ble_eq_true rfl) dX0_outs_2 (fun r1 hr1 => ?_)
  refine tr_cSIP C (av := [.int r1]) (st := []) (kJ6_bitCount_0f7a4 l g cs ad r1 σ) mwJ6_bitCount_0f7a4 w788 ⟨rfl, rfl⟩ ⟨(Nat.le_of_ble_eq_true rfl), (Nat.le_of_ble_eq_true rfl)⟩ rfl rfl (Nat.le_of_ble_eq_true rfl) dX0_outs_5 (fun r2 hr2 => ?_)
  exact tr_iretP C hr hlk dX0_outs_8
def fX0_areGathered_b60 (b : Nat) (a1 : Int32) (σ : Mem) (y2_60 : Int32) : Option (Int32) :=
  if y2_60 = (-1) then (
    some 0
  ) else (
    some 1
  )
def fX0_areGathered_L4 (b : Nat) (a1 : Int32) (σ : Mem) (ih4 : Int32 × Int32 → Option (Int32)) : Int32 × Int32 → Option (Int32) := fun v => match v with
  | (y2_4, y3_4) =>
    if (σ.1 b 7) ≤ y3_4 then (
      fX0_areGathered_b60 b a1 σ y2_4
    ) else (
      if ((a1 >>> (y3_4 &&& 31)) &&& 1) = 0 then (
        ih4 (y2_4, y3_4 + 1)
      ) else (
        gd (inB y3_4 8) (
          if (rd σ (b + 3) y3_4) = (-1) then (
            some 0
          ) else (
            if y2_4 = (-1) then (
              gd (inB y3_4 8) (
                ih4 (rd σ (b + 3) y3_4, y3_4 + 1)
              )
            ) else (
              gd (inB y3_4 8) (
                if (rd σ (b + 3) y3_4) = y2_4 then (
                  gd (inB y3_4 8) (
                    ih4 (rd σ (b + 3) y3_4, y3_4 + 1)
                  )
                ) else (
                  some 0
                )
              )
            )
          )
        )
      )
    )
def fX0_areGathered (b : Nat) (a1 : Int32) (σ : Mem) : Option (Int32) :=
  loopN (fX0_areGathered_L4 b a1 σ) 1000 (-1, 0)
set_option maxHeartbeats 4000000 in
set_option maxRecDepth 100000 in
theorem kX0_areGathered (l : Launch) (g : GG) (cs : CS) (ad : Nat → Nat) (b : Nat) (a1 : Int32) (hb : isFl b) (σ : Mem) : CtI l g cs ad (shC g) mX0_areGathered (.code mX0_areGathered cX0_areGathered 4 (some .boolean)) { frames := 0, cells := 0, slots := 0, locals := 0 } [.ref (ad b), .int a1] σ (pur (fX0_areGathered b a1 σ) σ) := by
  refine ctIP_intro (own := "KinInTheHeap$Floor") (by decide +kernel) rfl [some (.ref (ad b)), some (.int a1), none, none] (Nat.le_of_ble_eq_true rfl) rfl ?_
  intro p e s m args below meth c A C hr hlk
  refine tr_iconst C (v := -1) dX0_areGathered_0 (by decide) ?_
  refine tr_istore_n C (i := 2) (lv' := [some (.ref (ad b)), some (.int a1), some (.int (-1)), none]) dX0_areGathered_1 rfl (by decide) rfl ?_
  refine tr_iconst C (v := 0) dX0_areGathered_2 (by decide) ?_
  refine tr_istore_n C (i := 3) (lv' := [some (.ref (ad b)), some (.int a1), some (.int (-1)), some (.int 0)]) dX0_areGathered_3 rfl (by decide) rfl ?_
  refine tr_loop (b := fX0_areGathered_L4 b a1 σ) (sg := fun v => σ) (lw := fun v => [some (.ref (ad b)), some (.int a1), some (.int v.1), some (.int v.2)]) (sw := fun v => []) (fun ih4 IH4 v => ?_) 1000 (-1, 0)
  obtain ⟨y2_4, y3_4⟩ := v
  refine tr_st (σ' := σ) (lv' := [some (.ref (ad b)), some (.int a1), some (.int y2_4), some (.int y3_4)]) (st' := []) rfl rfl rfl ?_
  refine tr_iload_n C (i := 3) dX0_areGathered_4 rfl rfl ?_
  refine tr_aload_n C (i := 0) dX0_areGathered_5 rfl rfl ?_
  refine tr_getI C (k := 7) (ci := 0) (fl_0 hb) rfl rfl inT0 rfl (by decide) w236 dX0_areGathered_6 ?_
  have B60 : ∀ (y2_60 : Int32), Tr p l e { frames := 0, cells := 0, slots := 0, locals := 0 } s m args below meth c g ad (shC g) A 4 (QP g ad (shC g) A below args s σ) (fX0_areGathered_b60 b a1 σ y2_60) σ 60 [none, none, some (.int y2_60), none] [] := by
    intro y2_60
    refine tr_iload_n C (i := 2) dX0_areGathered_60 rfl rfl ?_
    refine tr_iconst C (v := -1) dX0_areGathered_61 (by decide) ?_
    refine tr_icmp_eq C (tgt := 69) dX0_areGathered_62 (by decide) (fun q1 => ?_) (fun q1 => ?_)
    · refine tr_iconst C (v := 0) dX0_areGathered_69 (by decide) ?_
      exact tr_zretP C hr hlk rfl dX0_areGathered_70
    · refine tr_iconst C (v := 1) dX0_areGathered_65 (by decide) ?_
      refine tr_goto C (tgt := 70) dX0_areGathered_66 (by decide) ?_
      exact tr_zretP C hr hlk rfl dX0_areGathered_70
  refine tr_icmp_ge C (tgt := 60) dX0_areGathered_9 (by decide) (fun q10 => ?_) (fun q10 => ?_)
  · refine tr_mask [false, false, true, false] rfl ?_
    exact B60 y2_4
  · refine tr_iload_n C (i := 1) dX0_areGathered_12 rfl rfl ?_
    refine tr_iload_n C (i := 3) dX0_areGathered_13 rfl rfl ?_
    refine tr_ishr C dX0_areGathered_14 ?_
    refine tr_iconst C (v := 1) dX0_areGathered_15 (by decide) ?_
    refine tr_iand C dX0_areGathered_16 ?_
    refine tr_if_eq C (tgt := 54) dX0_areGathered_17 (by decide) (fun q9 => ?_) (fun q9 => ?_)
    · refine tr_iinc C (i := 3) (d := 1) (lv' := [some (.ref (ad b)), some (.int a1), some (.int y2_4), some (.int (y3_4 + 1))]) dX0_areGathered_54 rfl (by decide) (by decide) rfl ?_
      refine tr_goto C (tgt := 4) dX0_areGathered_57 (by decide) ?_
      exact IH4 (y2_4, y3_4 + 1)
    · refine tr_aload_n C (i := 0) dX0_areGathered_20 rfl rfl ?_
      refine tr_getR C (k := 2) (ci := 0) (fl_0 hb) rfl rfl inT0 rfl (by decide) w226 dX0_areGathered_21 ?_
      refine tr_iload_n C (i := 3) dX0_areGathered_24 rfl rfl ?_
      refine tr_iald C (n := 8) (fl_3 hb) dX0_areGathered_25 (fun h8 => ?_)
      refine tr_iconst C (v := -1) dX0_areGathered_26 (by decide) ?_
      refine tr_icmp_eq C (tgt := 45) dX0_areGathered_27 (by decide) (fun q7 => ?_) (fun q7 => ?_)
      · refine tr_iconst C (v := 0) dX0_areGathered_45 (by decide) ?_
        exact tr_zretP C hr hlk rfl dX0_areGathered_46
      · refine tr_iload_n C (i := 2) dX0_areGathered_30 rfl rfl ?_
        refine tr_iconst C (v := -1) dX0_areGathered_31 (by decide) ?_
        refine tr_icmp_eq C (tgt := 47) dX0_areGathered_32 (by decide) (fun q6 => ?_) (fun q6 => ?_)
        · refine tr_aload_n C (i := 0) dX0_areGathered_47 rfl rfl ?_
          refine tr_getR C (k := 2) (ci := 0) (fl_0 hb) rfl rfl inT0 rfl (by decide) w226 dX0_areGathered_48 ?_
          refine tr_iload_n C (i := 3) dX0_areGathered_51 rfl rfl ?_
          refine tr_iald C (n := 8) (fl_3 hb) dX0_areGathered_52 (fun h2 => ?_)
          refine tr_istore_n C (i := 2) (lv' := [some (.ref (ad b)), some (.int a1), some (.int (rd σ (b + 3) y3_4)), some (.int y3_4)]) dX0_areGathered_53 rfl (by decide) rfl ?_
          refine tr_iinc C (i := 3) (d := 1) (lv' := [some (.ref (ad b)), some (.int a1), some (.int (rd σ (b + 3) y3_4)), some (.int (y3_4 + 1))]) dX0_areGathered_54 rfl (by decide) (by decide) rfl ?_
          refine tr_goto C (tgt := 4) dX0_areGathered_57 (by decide) ?_
          exact IH4 (rd σ (b + 3) y3_4, y3_4 + 1)
        · refine tr_aload_n C (i := 0) dX0_areGathered_35 rfl rfl ?_
          refine tr_getR C (k := 2) (ci := 0) (fl_0 hb) rfl rfl inT0 rfl (by decide) w226 dX0_areGathered_36 ?_
          refine tr_iload_n C (i := 3) dX0_areGathered_39 rfl rfl ?_
          refine tr_iald C (n := 8) (fl_3 hb) dX0_areGathered_40 (fun h5 => ?_)
          refine tr_iload_n C (i := 2) dX0_areGathered_41 rfl rfl ?_
          refine tr_icmp_eq C (tgt := 47) dX0_areGathered_42 (by decide) (fun q4 => ?_) (fun q4 => ?_)
          · refine tr_aload_n C (i := 0) dX0_areGathered_47 rfl rfl ?_
            refine tr_getR C (k := 2) (ci := 0) (fl_0 hb) rfl rfl inT0 rfl (by decide) w226 dX0_areGathered_48 ?_
            refine tr_iload_n C (i := 3) dX0_areGathered_51 rfl rfl ?_
            refine tr_iald C (n := 8) (fl_3 hb) dX0_areGathered_52 (fun h3 => ?_)
            refine tr_istore_n C (i := 2) (lv' := [some (.ref (ad b)), some (.int a1), some (.int (rd σ (b + 3) y3_4)), some (.int y3_4)]) dX0_areGathered_53 rfl (by decide) rfl ?_
            refine tr_iinc C (i := 3) (d := 1) (lv' := [some (.ref (ad b)), some (.int a1), some (.int (rd σ (b + 3) y3_4)), some (.int (y3_4 + 1))]) dX0_areGathered_54 rfl (by decide) (by decide) rfl ?_
            refine tr_goto C (tgt := 4) dX0_areGathered_57 (by decide) ?_
            exact IH4 (rd σ (b + 3) y3_4, y3_4 + 1)
          · refine tr_iconst C (v := 0) dX0_areGathered_45 (by decide) ?_
            exact tr_zretP C hr hlk rfl dX0_areGathered_46
def fX0_differs_L2 (b : Nat) (b1 : Nat) (σ : Mem) (ih2 : Int32 → Option (Int32)) : Int32 → Option (Int32) := fun v => match v with
  | y2_2 =>
    if (σ.1 b 7) ≤ y2_2 then (
      some 0
    ) else (
      gd (inB y2_2 8) (
        gd (inB y2_2 8) (
          if (rd σ (b + 3) y2_2) = (rd σ (b1 + 3) y2_2) then (
            ih2 (y2_2 + 1)
          ) else (
            some 1
          )
        )
      )
    )
def fX0_differs (b : Nat) (b1 : Nat) (σ : Mem) : Option (Int32) :=
  loopN (fX0_differs_L2 b b1 σ) 1000 0
set_option maxHeartbeats 4000000 in
set_option maxRecDepth 100000 in
theorem kX0_differs (l : Launch) (g : GG) (cs : CS) (ad : Nat → Nat) (b : Nat) (b1 : Nat) (hb : isFl b) (hb1 : isFl b1) (σ : Mem) : CtI l g cs ad (shC g) mX0_differs (.code mX0_differs cX0_differs 3 (some .boolean)) { frames := 0, cells := 0, slots := 0, locals := 0 } [.ref (ad b), .ref (ad b1)] σ (pur (fX0_differs b b1 σ) σ) := by
  refine ctIP_intro (own := "KinInTheHeap$Floor") (by decide +kernel) rfl [some (.ref (ad b)), some (.ref (ad b1)), none] (Nat.le_of_ble_eq_true rfl) rfl ?_
  intro p e s m args below meth c A C hr hlk
  refine tr_iconst C (v := 0) dX0_differs_0 (by decide) ?_
  refine tr_istore_n C (i := 2) (lv' := [some (.ref (ad b)), some (.ref (ad b1)), some (.int 0)]) dX0_differs_1 rfl (by decide) rfl ?_
  refine tr_loop (b := fX0_differs_L2 b b1 σ) (sg := fun v => σ) (lw := fun v => [some (.ref (ad b)), some (.ref (ad b1)), some (.int v)]) (sw := fun v => []) (fun ih2 IH2 v => ?_) 1000 0
  obtain ⟨y2_2, rfl⟩ : ∃ z, z = v := ⟨v, rfl⟩
  refine tr_st (σ' := σ) (lv' := [some (.ref (ad b)), some (.ref (ad b1)), some (.int y2_2)]) (st' := []) rfl rfl rfl ?_
  refine tr_iload_n C (i := 2) dX0_differs_2 rfl rfl ?_
  refine tr_aload_n C (i := 0) dX0_differs_3 rfl rfl ?_
  refine tr_getI C (k := 7) (ci := 0) (fl_0 hb) rfl rfl inT0 rfl (by decide) w236 dX0_differs_4 ?_
  refine tr_icmp_ge C (tgt := 33) dX0_differs_7 (by decide) (fun q4 => ?_) (fun q4 => ?_)
  · refine tr_iconst C (v := 0) dX0_differs_33 (by decide) ?_
    exact tr_zretP C hr hlk rfl dX0_differs_34
  · refine tr_aload_n C (i := 0) dX0_differs_10 rfl rfl ?_
    refine tr_getR C (k := 2) (ci := 0) (fl_0 hb) rfl rfl inT0 rfl (by decide) w226 dX0_differs_11 ?_
    refine tr_iload_n C (i := 2) dX0_differs_14 rfl rfl ?_
    refine tr_iald C (n := 8) (fl_3 hb) dX0_differs_15 (fun h3 => ?_)
    refine tr_aload_n C (i := 1) dX0_differs_16 rfl rfl ?_
    refine tr_getR C (k := 2) (ci := 0) (fl_0 hb1) rfl rfl inT0 rfl (by decide) w226 dX0_differs_17 ?_
    refine tr_iload_n C (i := 2) dX0_differs_20 rfl rfl ?_
    refine tr_iald C (n := 8) (fl_3 hb1) dX0_differs_21 (fun h2 => ?_)
    refine tr_icmp_eq C (tgt := 27) dX0_differs_22 (by decide) (fun q1 => ?_) (fun q1 => ?_)
    · refine tr_iinc C (i := 2) (d := 1) (lv' := [some (.ref (ad b)), some (.ref (ad b1)), some (.int (y2_2 + 1))]) dX0_differs_27 rfl (by decide) (by decide) rfl ?_
      refine tr_goto C (tgt := 2) dX0_differs_30 (by decide) ?_
      exact IH2 (y2_2 + 1)
    · refine tr_iconst C (v := 1) dX0_differs_25 (by decide) ?_
      exact tr_zretP C hr hlk rfl dX0_differs_26
def fX0_heapBits_L4 (b : Nat) (σ : Mem) (ih4 : Int64 × Int32 → Option (Int64)) : Int64 × Int32 → Option (Int64) := fun v => match v with
  | (y1_4, y3_4) =>
    if (σ.1 b 7) ≤ y3_4 then (
      some y1_4
    ) else (
      gd (inB y3_4 8) (
        if (rd σ (b + 3) y3_4) = (-1) then (
          ih4 (y1_4, y3_4 + 1)
        ) else (
          gd (inB y3_4 8) (
            ih4 (y1_4 ||| (1 <<< ((rd σ (b + 3) y3_4).toInt64 &&& 63)), y3_4 + 1)
          )
        )
      )
    )
def fX0_heapBits (b : Nat) (σ : Mem) : Option (Int64) :=
  loopN (fX0_heapBits_L4 b σ) 1000 (0, 0)
set_option maxHeartbeats 4000000 in
set_option maxRecDepth 100000 in
theorem kX0_heapBits (l : Launch) (g : GG) (cs : CS) (ad : Nat → Nat) (b : Nat) (hb : isFl b) (σ : Mem) : CtL l g cs ad (shC g) mX0_heapBits (.code mX0_heapBits cX0_heapBits 4 (some .long)) { frames := 0, cells := 0, slots := 0, locals := 0 } [.ref (ad b)] σ (pur (fX0_heapBits b σ) σ) := by
  refine ctLP_intro (own := "KinInTheHeap$Floor") (by decide +kernel) rfl [some (.ref (ad b)), none, none, none] (Nat.le_of_ble_eq_true rfl) rfl ?_
  intro p e s m args below meth c A C hr hlk
  refine tr_lconst C (v := 0) dX0_heapBits_0 (by decide) ?_
  refine tr_lstore_n C (i := 1) (lv' := [some (.ref (ad b)), some (.long 0), none, none]) dX0_heapBits_1 rfl (by decide) rfl ?_
  refine tr_iconst C (v := 0) dX0_heapBits_2 (by decide) ?_
  refine tr_istore_n C (i := 3) (lv' := [some (.ref (ad b)), some (.long 0), none, some (.int 0)]) dX0_heapBits_3 rfl (by decide) rfl ?_
  refine tr_loop (b := fX0_heapBits_L4 b σ) (sg := fun v => σ) (lw := fun v => [some (.ref (ad b)), some (.long v.1), none, some (.int v.2)]) (sw := fun v => []) (fun ih4 IH4 v => ?_) 1000 (0, 0)
  obtain ⟨y1_4, y3_4⟩ := v
  refine tr_st (σ' := σ) (lv' := [some (.ref (ad b)), some (.long y1_4), none, some (.int y3_4)]) (st' := []) rfl rfl rfl ?_
  refine tr_iload_n C (i := 3) dX0_heapBits_4 rfl rfl ?_
  refine tr_aload_n C (i := 0) dX0_heapBits_5 rfl rfl ?_
  refine tr_getI C (k := 7) (ci := 0) (fl_0 hb) rfl rfl inT0 rfl (by decide) w236 dX0_heapBits_6 ?_
  refine tr_icmp_ge C (tgt := 39) dX0_heapBits_9 (by decide) (fun q4 => ?_) (fun q4 => ?_)
  · refine tr_lload_n C (i := 1) dX0_heapBits_39 rfl rfl ?_
    exact tr_lretP C hr hlk dX0_heapBits_40
  · refine tr_aload_n C (i := 0) dX0_heapBits_12 rfl rfl ?_
    refine tr_getR C (k := 2) (ci := 0) (fl_0 hb) rfl rfl inT0 rfl (by decide) w226 dX0_heapBits_13 ?_
    refine tr_iload_n C (i := 3) dX0_heapBits_16 rfl rfl ?_
    refine tr_iald C (n := 8) (fl_3 hb) dX0_heapBits_17 (fun h3 => ?_)
    refine tr_iconst C (v := -1) dX0_heapBits_18 (by decide) ?_
    refine tr_icmp_eq C (tgt := 33) dX0_heapBits_19 (by decide) (fun q2 => ?_) (fun q2 => ?_)
    · refine tr_iinc C (i := 3) (d := 1) (lv' := [some (.ref (ad b)), some (.long y1_4), none, some (.int (y3_4 + 1))]) dX0_heapBits_33 rfl (by decide) (by decide) rfl ?_
      refine tr_goto C (tgt := 4) dX0_heapBits_36 (by decide) ?_
      exact IH4 (y1_4, y3_4 + 1)
    · refine tr_lload_n C (i := 1) dX0_heapBits_22 rfl rfl ?_
      refine tr_lconst C (v := 1) dX0_heapBits_23 (by decide) ?_
      refine tr_aload_n C (i := 0) dX0_heapBits_24 rfl rfl ?_
      refine tr_getR C (k := 2) (ci := 0) (fl_0 hb) rfl rfl inT0 rfl (by decide) w226 dX0_heapBits_25 ?_
      refine tr_iload_n C (i := 3) dX0_heapBits_28 rfl rfl ?_
      refine tr_iald C (n := 8) (fl_3 hb) dX0_heapBits_29 (fun h1 => ?_)
      refine tr_lshl C dX0_heapBits_30 ?_
      refine tr_lor C dX0_heapBits_31 ?_
      refine tr_lstore_n C (i := 1) (lv' := [some (.ref (ad b)), some (.long (y1_4 ||| (1 <<< ((rd σ (b + 3) y3_4).toInt64 &&& 63)))), none, some (.int y3_4)]) dX0_heapBits_32 rfl (by decide) rfl ?_
      refine tr_iinc C (i := 3) (d := 1) (lv' := [some (.ref (ad b)), some (.long (y1_4 ||| (1 <<< ((rd σ (b + 3) y3_4).toInt64 &&& 63)))), none, some (.int (y3_4 + 1))]) dX0_heapBits_33 rfl (by decide) (by decide) rfl ?_
      refine tr_goto C (tgt := 4) dX0_heapBits_36 (by decide) ?_
      exact IH4 (y1_4 ||| (1 <<< ((rd σ (b + 3) y3_4).toInt64 &&& 63)), y3_4 + 1)
def fJ13_bitCount_95d88 (a1 : Int64) (σ : Mem) : Option (Int32) :=
  some ((((((((((a1 - (((a1.toUInt64 >>> ((1 : Int32).toInt64.toUInt64 &&& Int64.toUInt64 63)).toInt64) &&& 6148914691236517205)) &&& 3689348814741910323) + ((((a1 - (((a1.toUInt64 >>> ((1 : Int32).toInt64.toUInt64 &&& Int64.toUInt64 63)).toInt64) &&& 6148914691236517205)).toUInt64 >>> ((2 : Int32).toInt64.toUInt64 &&& Int64.toUInt64 63)).toInt64) &&& 3689348814741910323)) + (((((a1 - (((a1.toUInt64 >>> ((1 : Int32).toInt64.toUInt64 &&& Int64.toUInt64 63)).toInt64) &&& 6148914691236517205)) &&& 3689348814741910323) + ((((a1 - (((a1.toUInt64 >>> ((1 : Int32).toInt64.toUInt64 &&& Int64.toUInt64 63)).toInt64) &&& 6148914691236517205)).toUInt64 >>> ((2 : Int32).toInt64.toUInt64 &&& Int64.toUInt64 63)).toInt64) &&& 3689348814741910323)).toUInt64 >>> ((4 : Int32).toInt64.toUInt64 &&& Int64.toUInt64 63)).toInt64)) &&& 1085102592571150095) + (((((((a1 - (((a1.toUInt64 >>> ((1 : Int32).toInt64.toUInt64 &&& Int64.toUInt64 63)).toInt64) &&& 6148914691236517205)) &&& 3689348814741910323) + ((((a1 - (((a1.toUInt64 >>> ((1 : Int32).toInt64.toUInt64 &&& Int64.toUInt64 63)).toInt64) &&& 6148914691236517205)).toUInt64 >>> ((2 : Int32).toInt64.toUInt64 &&& Int64.toUInt64 63)).toInt64) &&& 3689348814741910323)) + (((((a1 - (((a1.toUInt64 >>> ((1 : Int32).toInt64.toUInt64 &&& Int64.toUInt64 63)).toInt64) &&& 6148914691236517205)) &&& 3689348814741910323) + ((((a1 - (((a1.toUInt64 >>> ((1 : Int32).toInt64.toUInt64 &&& Int64.toUInt64 63)).toInt64) &&& 6148914691236517205)).toUInt64 >>> ((2 : Int32).toInt64.toUInt64 &&& Int64.toUInt64 63)).toInt64) &&& 3689348814741910323)).toUInt64 >>> ((4 : Int32).toInt64.toUInt64 &&& Int64.toUInt64 63)).toInt64)) &&& 1085102592571150095).toUInt64 >>> ((8 : Int32).toInt64.toUInt64 &&& Int64.toUInt64 63)).toInt64)) + ((((((((a1 - (((a1.toUInt64 >>> ((1 : Int32).toInt64.toUInt64 &&& Int64.toUInt64 63)).toInt64) &&& 6148914691236517205)) &&& 3689348814741910323) + ((((a1 - (((a1.toUInt64 >>> ((1 : Int32).toInt64.toUInt64 &&& Int64.toUInt64 63)).toInt64) &&& 6148914691236517205)).toUInt64 >>> ((2 : Int32).toInt64.toUInt64 &&& Int64.toUInt64 63)).toInt64) &&& 3689348814741910323)) + (((((a1 - (((a1.toUInt64 >>> ((1 : Int32).toInt64.toUInt64 &&& Int64.toUInt64 63)).toInt64) &&& 6148914691236517205)) &&& 3689348814741910323) + ((((a1 - (((a1.toUInt64 >>> ((1 : Int32).toInt64.toUInt64 &&& Int64.toUInt64 63)).toInt64) &&& 6148914691236517205)).toUInt64 >>> ((2 : Int32).toInt64.toUInt64 &&& Int64.toUInt64 63)).toInt64) &&& 3689348814741910323)).toUInt64 >>> ((4 : Int32).toInt64.toUInt64 &&& Int64.toUInt64 63)).toInt64)) &&& 1085102592571150095) + (((((((a1 - (((a1.toUInt64 >>> ((1 : Int32).toInt64.toUInt64 &&& Int64.toUInt64 63)).toInt64) &&& 6148914691236517205)) &&& 3689348814741910323) + ((((a1 - (((a1.toUInt64 >>> ((1 : Int32).toInt64.toUInt64 &&& Int64.toUInt64 63)).toInt64) &&& 6148914691236517205)).toUInt64 >>> ((2 : Int32).toInt64.toUInt64 &&& Int64.toUInt64 63)).toInt64) &&& 3689348814741910323)) + (((((a1 - (((a1.toUInt64 >>> ((1 : Int32).toInt64.toUInt64 &&& Int64.toUInt64 63)).toInt64) &&& 6148914691236517205)) &&& 3689348814741910323) + ((((a1 - (((a1.toUInt64 >>> ((1 : Int32).toInt64.toUInt64 &&& Int64.toUInt64 63)).toInt64) &&& 6148914691236517205)).toUInt64 >>> ((2 : Int32).toInt64.toUInt64 &&& Int64.toUInt64 63)).toInt64) &&& 3689348814741910323)).toUInt64 >>> ((4 : Int32).toInt64.toUInt64 &&& Int64.toUInt64 63)).toInt64)) &&& 1085102592571150095).toUInt64 >>> ((8 : Int32).toInt64.toUInt64 &&& Int64.toUInt64 63)).toInt64)).toUInt64 >>> ((16 : Int32).toInt64.toUInt64 &&& Int64.toUInt64 63)).toInt64)) + (((((((((a1 - (((a1.toUInt64 >>> ((1 : Int32).toInt64.toUInt64 &&& Int64.toUInt64 63)).toInt64) &&& 6148914691236517205)) &&& 3689348814741910323) + ((((a1 - (((a1.toUInt64 >>> ((1 : Int32).toInt64.toUInt64 &&& Int64.toUInt64 63)).toInt64) &&& 6148914691236517205)).toUInt64 >>> ((2 : Int32).toInt64.toUInt64 &&& Int64.toUInt64 63)).toInt64) &&& 3689348814741910323)) + (((((a1 - (((a1.toUInt64 >>> ((1 : Int32).toInt64.toUInt64 &&& Int64.toUInt64 63)).toInt64) &&& 6148914691236517205)) &&& 3689348814741910323) + ((((a1 - (((a1.toUInt64 >>> ((1 : Int32).toInt64.toUInt64 &&& Int64.toUInt64 63)).toInt64) &&& 6148914691236517205)).toUInt64 >>> ((2 : Int32).toInt64.toUInt64 &&& Int64.toUInt64 63)).toInt64) &&& 3689348814741910323)).toUInt64 >>> ((4 : Int32).toInt64.toUInt64 &&& Int64.toUInt64 63)).toInt64)) &&& 1085102592571150095) + (((((((a1 - (((a1.toUInt64 >>> ((1 : Int32).toInt64.toUInt64 &&& Int64.toUInt64 63)).toInt64) &&& 6148914691236517205)) &&& 3689348814741910323) + ((((a1 - (((a1.toUInt64 >>> ((1 : Int32).toInt64.toUInt64 &&& Int64.toUInt64 63)).toInt64) &&& 6148914691236517205)).toUInt64 >>> ((2 : Int32).toInt64.toUInt64 &&& Int64.toUInt64 63)).toInt64) &&& 3689348814741910323)) + (((((a1 - (((a1.toUInt64 >>> ((1 : Int32).toInt64.toUInt64 &&& Int64.toUInt64 63)).toInt64) &&& 6148914691236517205)) &&& 3689348814741910323) + ((((a1 - (((a1.toUInt64 >>> ((1 : Int32).toInt64.toUInt64 &&& Int64.toUInt64 63)).toInt64) &&& 6148914691236517205)).toUInt64 >>> ((2 : Int32).toInt64.toUInt64 &&& Int64.toUInt64 63)).toInt64) &&& 3689348814741910323)).toUInt64 >>> ((4 : Int32).toInt64.toUInt64 &&& Int64.toUInt64 63)).toInt64)) &&& 1085102592571150095).toUInt64 >>> ((8 : Int32).toInt64.toUInt64 &&& Int64.toUInt64 63)).toInt64)) + ((((((((a1 - (((a1.toUInt64 >>> ((1 : Int32).toInt64.toUInt64 &&& Int64.toUInt64 63)).toInt64) &&& 6148914691236517205)) &&& 3689348814741910323) + ((((a1 - (((a1.toUInt64 >>> ((1 : Int32).toInt64.toUInt64 &&& Int64.toUInt64 63)).toInt64) &&& 6148914691236517205)).toUInt64 >>> ((2 : Int32).toInt64.toUInt64 &&& Int64.toUInt64 63)).toInt64) &&& 3689348814741910323)) + (((((a1 - (((a1.toUInt64 >>> ((1 : Int32).toInt64.toUInt64 &&& Int64.toUInt64 63)).toInt64) &&& 6148914691236517205)) &&& 3689348814741910323) + ((((a1 - (((a1.toUInt64 >>> ((1 : Int32).toInt64.toUInt64 &&& Int64.toUInt64 63)).toInt64) &&& 6148914691236517205)).toUInt64 >>> ((2 : Int32).toInt64.toUInt64 &&& Int64.toUInt64 63)).toInt64) &&& 3689348814741910323)).toUInt64 >>> ((4 : Int32).toInt64.toUInt64 &&& Int64.toUInt64 63)).toInt64)) &&& 1085102592571150095) + (((((((a1 - (((a1.toUInt64 >>> ((1 : Int32).toInt64.toUInt64 &&& Int64.toUInt64 63)).toInt64) &&& 6148914691236517205)) &&& 3689348814741910323) + ((((a1 - (((a1.toUInt64 >>> ((1 : Int32).toInt64.toUInt64 &&& Int64.toUInt64 63)).toInt64) &&& 6148914691236517205)).toUInt64 >>> ((2 : Int32).toInt64.toUInt64 &&& Int64.toUInt64 63)).toInt64) &&& 3689348814741910323)) + (((((a1 - (((a1.toUInt64 >>> ((1 : Int32).toInt64.toUInt64 &&& Int64.toUInt64 63)).toInt64) &&& 6148914691236517205)) &&& 3689348814741910323) + ((((a1 - (((a1.toUInt64 >>> ((1 : Int32).toInt64.toUInt64 &&& Int64.toUInt64 63)).toInt64) &&& 6148914691236517205)).toUInt64 >>> ((2 : Int32).toInt64.toUInt64 &&& Int64.toUInt64 63)).toInt64) &&& 3689348814741910323)).toUInt64 >>> ((4 : Int32).toInt64.toUInt64 &&& Int64.toUInt64 63)).toInt64)) &&& 1085102592571150095).toUInt64 >>> ((8 : Int32).toInt64.toUInt64 &&& Int64.toUInt64 63)).toInt64)).toUInt64 >>> ((16 : Int32).toInt64.toUInt64 &&& Int64.toUInt64 63)).toInt64)).toUInt64 >>> ((32 : Int32).toInt64.toUInt64 &&& Int64.toUInt64 63)).toInt64)).toInt32) &&& 127)
set_option maxHeartbeats 4000000 in
set_option maxRecDepth 100000 in
theorem kJ13_bitCount_95d88 (l : Launch) (g : GG) (cs : CS) (ad : Nat → Nat) (a1 : Int64) (σ : Mem) : CtI l g cs ad (shC g) mJ13_bitCount_95d88 (.code mJ13_bitCount_95d88 cJ13_bitCount_95d88 2 (some .int)) { frames := 0, cells := 0, slots := 0, locals := 0 } [.long a1] σ (pur (fJ13_bitCount_95d88 a1 σ) σ) := by
  refine ctIP_intro (own := "java/lang/Long") (by decide +kernel) rfl [some (.long a1), none] (Nat.le_of_ble_eq_true rfl) rfl ?_
  intro p e s m args below meth c A C hr hlk
  refine tr_lload_n C (i := 0) dJ13_bitCount_95d88_0 rfl rfl ?_
  refine tr_lload_n C (i := 0) dJ13_bitCount_95d88_1 rfl rfl ?_
  refine tr_iconst C (v := 1) dJ13_bitCount_95d88_2 (by decide) ?_
  refine tr_lushr C dJ13_bitCount_95d88_3 ?_
  refine tr_ldc2 C (v := 6148914691236517205) w715 dJ13_bitCount_95d88_4 ?_
  refine tr_land C dJ13_bitCount_95d88_7 ?_
  refine tr_lsub C dJ13_bitCount_95d88_8 ?_
  refine tr_lstore_n C (i := 0) (lv' := [some (.long (a1 - (((a1.toUInt64 >>> ((1 : Int32).toInt64.toUInt64 &&& Int64.toUInt64 63)).toInt64) &&& 6148914691236517205))), none]) dJ13_bitCount_95d88_9 rfl (by decide) rfl ?_
  refine tr_lload_n C (i := 0) dJ13_bitCount_95d88_10 rfl rfl ?_
  refine tr_ldc2 C (v := 3689348814741910323) w716 dJ13_bitCount_95d88_11 ?_
  refine tr_land C dJ13_bitCount_95d88_14 ?_
  refine tr_lload_n C (i := 0) dJ13_bitCount_95d88_15 rfl rfl ?_
  refine tr_iconst C (v := 2) dJ13_bitCount_95d88_16 (by decide) ?_
  refine tr_lushr C dJ13_bitCount_95d88_17 ?_
  refine tr_ldc2 C (v := 3689348814741910323) w716 dJ13_bitCount_95d88_18 ?_
  refine tr_land C dJ13_bitCount_95d88_21 ?_
  refine tr_ladd C dJ13_bitCount_95d88_22 ?_
  refine tr_lstore_n C (i := 0) (lv' := [some (.long (((a1 - (((a1.toUInt64 >>> ((1 : Int32).toInt64.toUInt64 &&& Int64.toUInt64 63)).toInt64) &&& 6148914691236517205)) &&& 3689348814741910323) + ((((a1 - (((a1.toUInt64 >>> ((1 : Int32).toInt64.toUInt64 &&& Int64.toUInt64 63)).toInt64) &&& 6148914691236517205)).toUInt64 >>> ((2 : Int32).toInt64.toUInt64 &&& Int64.toUInt64 63)).toInt64) &&& 3689348814741910323))), none]) dJ13_bitCount_95d88_23 rfl (by decide) rfl ?_
  refine tr_lload_n C (i := 0) dJ13_bitCount_95d88_24 rfl rfl ?_
  refine tr_lload_n C (i := 0) dJ13_bitCount_95d88_25 rfl rfl ?_
  refine tr_iconst C (v := 4) dJ13_bitCount_95d88_26 (by decide) ?_
  refine tr_lushr C dJ13_bitCount_95d88_27 ?_
  refine tr_ladd C dJ13_bitCount_95d88_28 ?_
  refine tr_ldc2 C (v := 1085102592571150095) w717 dJ13_bitCount_95d88_29 ?_
  refine tr_land C dJ13_bitCount_95d88_32 ?_
  refine tr_lstore_n C (i := 0) (lv' := [some (.long (((((a1 - (((a1.toUInt64 >>> ((1 : Int32).toInt64.toUInt64 &&& Int64.toUInt64 63)).toInt64) &&& 6148914691236517205)) &&& 3689348814741910323) + ((((a1 - (((a1.toUInt64 >>> ((1 : Int32).toInt64.toUInt64 &&& Int64.toUInt64 63)).toInt64) &&& 6148914691236517205)).toUInt64 >>> ((2 : Int32).toInt64.toUInt64 &&& Int64.toUInt64 63)).toInt64) &&& 3689348814741910323)) + (((((a1 - (((a1.toUInt64 >>> ((1 : Int32).toInt64.toUInt64 &&& Int64.toUInt64 63)).toInt64) &&& 6148914691236517205)) &&& 3689348814741910323) + ((((a1 - (((a1.toUInt64 >>> ((1 : Int32).toInt64.toUInt64 &&& Int64.toUInt64 63)).toInt64) &&& 6148914691236517205)).toUInt64 >>> ((2 : Int32).toInt64.toUInt64 &&& Int64.toUInt64 63)).toInt64) &&& 3689348814741910323)).toUInt64 >>> ((4 : Int32).toInt64.toUInt64 &&& Int64.toUInt64 63)).toInt64)) &&& 1085102592571150095)), none]) dJ13_bitCount_95d88_33 rfl (by decide) rfl ?_
  refine tr_lload_n C (i := 0) dJ13_bitCount_95d88_34 rfl rfl ?_
  refine tr_lload_n C (i := 0) dJ13_bitCount_95d88_35 rfl rfl ?_
  refine tr_bipush C (v := 8) dJ13_bitCount_95d88_36 (by decide) ?_
  refine tr_lushr C dJ13_bitCount_95d88_38 ?_
  refine tr_ladd C dJ13_bitCount_95d88_39 ?_
  refine tr_lstore_n C (i := 0) (lv' := [some (.long ((((((a1 - (((a1.toUInt64 >>> ((1 : Int32).toInt64.toUInt64 &&& Int64.toUInt64 63)).toInt64) &&& 6148914691236517205)) &&& 3689348814741910323) + ((((a1 - (((a1.toUInt64 >>> ((1 : Int32).toInt64.toUInt64 &&& Int64.toUInt64 63)).toInt64) &&& 6148914691236517205)).toUInt64 >>> ((2 : Int32).toInt64.toUInt64 &&& Int64.toUInt64 63)).toInt64) &&& 3689348814741910323)) + (((((a1 - (((a1.toUInt64 >>> ((1 : Int32).toInt64.toUInt64 &&& Int64.toUInt64 63)).toInt64) &&& 6148914691236517205)) &&& 3689348814741910323) + ((((a1 - (((a1.toUInt64 >>> ((1 : Int32).toInt64.toUInt64 &&& Int64.toUInt64 63)).toInt64) &&& 6148914691236517205)).toUInt64 >>> ((2 : Int32).toInt64.toUInt64 &&& Int64.toUInt64 63)).toInt64) &&& 3689348814741910323)).toUInt64 >>> ((4 : Int32).toInt64.toUInt64 &&& Int64.toUInt64 63)).toInt64)) &&& 1085102592571150095) + (((((((a1 - (((a1.toUInt64 >>> ((1 : Int32).toInt64.toUInt64 &&& Int64.toUInt64 63)).toInt64) &&& 6148914691236517205)) &&& 3689348814741910323) + ((((a1 - (((a1.toUInt64 >>> ((1 : Int32).toInt64.toUInt64 &&& Int64.toUInt64 63)).toInt64) &&& 6148914691236517205)).toUInt64 >>> ((2 : Int32).toInt64.toUInt64 &&& Int64.toUInt64 63)).toInt64) &&& 3689348814741910323)) + (((((a1 - (((a1.toUInt64 >>> ((1 : Int32).toInt64.toUInt64 &&& Int64.toUInt64 63)).toInt64) &&& 6148914691236517205)) &&& 3689348814741910323) + ((((a1 - (((a1.toUInt64 >>> ((1 : Int32).toInt64.toUInt64 &&& Int64.toUInt64 63)).toInt64) &&& 6148914691236517205)).toUInt64 >>> ((2 : Int32).toInt64.toUInt64 &&& Int64.toUInt64 63)).toInt64) &&& 3689348814741910323)).toUInt64 >>> ((4 : Int32).toInt64.toUInt64 &&& Int64.toUInt64 63)).toInt64)) &&& 1085102592571150095).toUInt64 >>> ((8 : Int32).toInt64.toUInt64 &&& Int64.toUInt64 63)).toInt64))), none]) dJ13_bitCount_95d88_40 rfl (by decide) rfl ?_
  refine tr_lload_n C (i := 0) dJ13_bitCount_95d88_41 rfl rfl ?_
  refine tr_lload_n C (i := 0) dJ13_bitCount_95d88_42 rfl rfl ?_
  refine tr_bipush C (v := 16) dJ13_bitCount_95d88_43 (by decide) ?_
  refine tr_lushr C dJ13_bitCount_95d88_45 ?_
  refine tr_ladd C dJ13_bitCount_95d88_46 ?_
  refine tr_lstore_n C (i := 0) (lv' := [some (.long (((((((a1 - (((a1.toUInt64 >>> ((1 : Int32).toInt64.toUInt64 &&& Int64.toUInt64 63)).toInt64) &&& 6148914691236517205)) &&& 3689348814741910323) + ((((a1 - (((a1.toUInt64 >>> ((1 : Int32).toInt64.toUInt64 &&& Int64.toUInt64 63)).toInt64) &&& 6148914691236517205)).toUInt64 >>> ((2 : Int32).toInt64.toUInt64 &&& Int64.toUInt64 63)).toInt64) &&& 3689348814741910323)) + (((((a1 - (((a1.toUInt64 >>> ((1 : Int32).toInt64.toUInt64 &&& Int64.toUInt64 63)).toInt64) &&& 6148914691236517205)) &&& 3689348814741910323) + ((((a1 - (((a1.toUInt64 >>> ((1 : Int32).toInt64.toUInt64 &&& Int64.toUInt64 63)).toInt64) &&& 6148914691236517205)).toUInt64 >>> ((2 : Int32).toInt64.toUInt64 &&& Int64.toUInt64 63)).toInt64) &&& 3689348814741910323)).toUInt64 >>> ((4 : Int32).toInt64.toUInt64 &&& Int64.toUInt64 63)).toInt64)) &&& 1085102592571150095) + (((((((a1 - (((a1.toUInt64 >>> ((1 : Int32).toInt64.toUInt64 &&& Int64.toUInt64 63)).toInt64) &&& 6148914691236517205)) &&& 3689348814741910323) + ((((a1 - (((a1.toUInt64 >>> ((1 : Int32).toInt64.toUInt64 &&& Int64.toUInt64 63)).toInt64) &&& 6148914691236517205)).toUInt64 >>> ((2 : Int32).toInt64.toUInt64 &&& Int64.toUInt64 63)).toInt64) &&& 3689348814741910323)) + (((((a1 - (((a1.toUInt64 >>> ((1 : Int32).toInt64.toUInt64 &&& Int64.toUInt64 63)).toInt64) &&& 6148914691236517205)) &&& 3689348814741910323) + ((((a1 - (((a1.toUInt64 >>> ((1 : Int32).toInt64.toUInt64 &&& Int64.toUInt64 63)).toInt64) &&& 6148914691236517205)).toUInt64 >>> ((2 : Int32).toInt64.toUInt64 &&& Int64.toUInt64 63)).toInt64) &&& 3689348814741910323)).toUInt64 >>> ((4 : Int32).toInt64.toUInt64 &&& Int64.toUInt64 63)).toInt64)) &&& 1085102592571150095).toUInt64 >>> ((8 : Int32).toInt64.toUInt64 &&& Int64.toUInt64 63)).toInt64)) + ((((((((a1 - (((a1.toUInt64 >>> ((1 : Int32).toInt64.toUInt64 &&& Int64.toUInt64 63)).toInt64) &&& 6148914691236517205)) &&& 3689348814741910323) + ((((a1 - (((a1.toUInt64 >>> ((1 : Int32).toInt64.toUInt64 &&& Int64.toUInt64 63)).toInt64) &&& 6148914691236517205)).toUInt64 >>> ((2 : Int32).toInt64.toUInt64 &&& Int64.toUInt64 63)).toInt64) &&& 3689348814741910323)) + (((((a1 - (((a1.toUInt64 >>> ((1 : Int32).toInt64.toUInt64 &&& Int64.toUInt64 63)).toInt64) &&& 6148914691236517205)) &&& 3689348814741910323) + ((((a1 - (((a1.toUInt64 >>> ((1 : Int32).toInt64.toUInt64 &&& Int64.toUInt64 63)).toInt64) &&& 6148914691236517205)).toUInt64 >>> ((2 : Int32).toInt64.toUInt64 &&& Int64.toUInt64 63)).toInt64) &&& 3689348814741910323)).toUInt64 >>> ((4 : Int32).toInt64.toUInt64 &&& Int64.toUInt64 63)).toInt64)) &&& 1085102592571150095) + (((((((a1 - (((a1.toUInt64 >>> ((1 : Int32).toInt64.toUInt64 &&& Int64.toUInt64 63)).toInt64) &&& 6148914691236517205)) &&& 3689348814741910323) + ((((a1 - (((a1.toUInt64 >>> ((1 : Int32).toInt64.toUInt64 &&& Int64.toUInt64 63)).toInt64) &&& 6148914691236517205)).toUInt64 >>> ((2 : Int32).toInt64.toUInt64 &&& Int64.toUInt64 63)).toInt64) &&& 3689348814741910323)) + (((((a1 - (((a1.toUInt64 >>> ((1 : Int32).toInt64.toUInt64 &&& Int64.toUInt64 63)).toInt64) &&& 6148914691236517205)) &&& 3689348814741910323) + ((((a1 - (((a1.toUInt64 >>> ((1 : Int32).toInt64.toUInt64 &&& Int64.toUInt64 63)).toInt64) &&& 6148914691236517205)).toUInt64 >>> ((2 : Int32).toInt64.toUInt64 &&& Int64.toUInt64 63)).toInt64) &&& 3689348814741910323)).toUInt64 >>> ((4 : Int32).toInt64.toUInt64 &&& Int64.toUInt64 63)).toInt64)) &&& 1085102592571150095).toUInt64 >>> ((8 : Int32).toInt64.toUInt64 &&& Int64.toUInt64 63)).toInt64)).toUInt64 >>> ((16 : Int32).toInt64.toUInt64 &&& Int64.toUInt64 63)).toInt64))), none]) dJ13_bitCount_95d88_47 rfl (by decide) rfl ?_
  refine tr_lload_n C (i := 0) dJ13_bitCount_95d88_48 rfl rfl ?_
  refine tr_lload_n C (i := 0) dJ13_bitCount_95d88_49 rfl rfl ?_
  refine tr_bipush C (v := 32) dJ13_bitCount_95d88_50 (by decide) ?_
  refine tr_lushr C dJ13_bitCount_95d88_52 ?_
  refine tr_ladd C dJ13_bitCount_95d88_53 ?_
  refine tr_lstore_n C (i := 0) (lv' := [some (.long ((((((((a1 - (((a1.toUInt64 >>> ((1 : Int32).toInt64.toUInt64 &&& Int64.toUInt64 63)).toInt64) &&& 6148914691236517205)) &&& 3689348814741910323) + ((((a1 - (((a1.toUInt64 >>> ((1 : Int32).toInt64.toUInt64 &&& Int64.toUInt64 63)).toInt64) &&& 6148914691236517205)).toUInt64 >>> ((2 : Int32).toInt64.toUInt64 &&& Int64.toUInt64 63)).toInt64) &&& 3689348814741910323)) + (((((a1 - (((a1.toUInt64 >>> ((1 : Int32).toInt64.toUInt64 &&& Int64.toUInt64 63)).toInt64) &&& 6148914691236517205)) &&& 3689348814741910323) + ((((a1 - (((a1.toUInt64 >>> ((1 : Int32).toInt64.toUInt64 &&& Int64.toUInt64 63)).toInt64) &&& 6148914691236517205)).toUInt64 >>> ((2 : Int32).toInt64.toUInt64 &&& Int64.toUInt64 63)).toInt64) &&& 3689348814741910323)).toUInt64 >>> ((4 : Int32).toInt64.toUInt64 &&& Int64.toUInt64 63)).toInt64)) &&& 1085102592571150095) + (((((((a1 - (((a1.toUInt64 >>> ((1 : Int32).toInt64.toUInt64 &&& Int64.toUInt64 63)).toInt64) &&& 6148914691236517205)) &&& 3689348814741910323) + ((((a1 - (((a1.toUInt64 >>> ((1 : Int32).toInt64.toUInt64 &&& Int64.toUInt64 63)).toInt64) &&& 6148914691236517205)).toUInt64 >>> ((2 : Int32).toInt64.toUInt64 &&& Int64.toUInt64 63)).toInt64) &&& 3689348814741910323)) + (((((a1 - (((a1.toUInt64 >>> ((1 : Int32).toInt64.toUInt64 &&& Int64.toUInt64 63)).toInt64) &&& 6148914691236517205)) &&& 3689348814741910323) + ((((a1 - (((a1.toUInt64 >>> ((1 : Int32).toInt64.toUInt64 &&& Int64.toUInt64 63)).toInt64) &&& 6148914691236517205)).toUInt64 >>> ((2 : Int32).toInt64.toUInt64 &&& Int64.toUInt64 63)).toInt64) &&& 3689348814741910323)).toUInt64 >>> ((4 : Int32).toInt64.toUInt64 &&& Int64.toUInt64 63)).toInt64)) &&& 1085102592571150095).toUInt64 >>> ((8 : Int32).toInt64.toUInt64 &&& Int64.toUInt64 63)).toInt64)) + ((((((((a1 - (((a1.toUInt64 >>> ((1 : Int32).toInt64.toUInt64 &&& Int64.toUInt64 63)).toInt64) &&& 6148914691236517205)) &&& 3689348814741910323) + ((((a1 - (((a1.toUInt64 >>> ((1 : Int32).toInt64.toUInt64 &&& Int64.toUInt64 63)).toInt64) &&& 6148914691236517205)).toUInt64 >>> ((2 : Int32).toInt64.toUInt64 &&& Int64.toUInt64 63)).toInt64) &&& 3689348814741910323)) + (((((a1 - (((a1.toUInt64 >>> ((1 : Int32).toInt64.toUInt64 &&& Int64.toUInt64 63)).toInt64) &&& 6148914691236517205)) &&& 3689348814741910323) + ((((a1 - (((a1.toUInt64 >>> ((1 : Int32).toInt64.toUInt64 &&& Int64.toUInt64 63)).toInt64) &&& 6148914691236517205)).toUInt64 >>> ((2 : Int32).toInt64.toUInt64 &&& Int64.toUInt64 63)).toInt64) &&& 3689348814741910323)).toUInt64 >>> ((4 : Int32).toInt64.toUInt64 &&& Int64.toUInt64 63)).toInt64)) &&& 1085102592571150095) + (((((((a1 - (((a1.toUInt64 >>> ((1 : Int32).toInt64.toUInt64 &&& Int64.toUInt64 63)).toInt64) &&& 6148914691236517205)) &&& 3689348814741910323) + ((((a1 - (((a1.toUInt64 >>> ((1 : Int32).toInt64.toUInt64 &&& Int64.toUInt64 63)).toInt64) &&& 6148914691236517205)).toUInt64 >>> ((2 : Int32).toInt64.toUInt64 &&& Int64.toUInt64 63)).toInt64) &&& 3689348814741910323)) + (((((a1 - (((a1.toUInt64 >>> ((1 : Int32).toInt64.toUInt64 &&& Int64.toUInt64 63)).toInt64) &&& 6148914691236517205)) &&& 3689348814741910323) + ((((a1 - (((a1.toUInt64 >>> ((1 : Int32).toInt64.toUInt64 &&& Int64.toUInt64 63)).toInt64) &&& 6148914691236517205)).toUInt64 >>> ((2 : Int32).toInt64.toUInt64 &&& Int64.toUInt64 63)).toInt64) &&& 3689348814741910323)).toUInt64 >>> ((4 : Int32).toInt64.toUInt64 &&& Int64.toUInt64 63)).toInt64)) &&& 1085102592571150095).toUInt64 >>> ((8 : Int32).toInt64.toUInt64 &&& Int64.toUInt64 63)).toInt64)).toUInt64 >>> ((16 : Int32).toInt64.toUInt64 &&& Int64.toUInt64 63)).toInt64)) + (((((((((a1 - (((a1.toUInt64 >>> ((1 : Int32).toInt64.toUInt64 &&& Int64.toUInt64 63)).toInt64) &&& 6148914691236517205)) &&& 3689348814741910323) + ((((a1 - (((a1.toUInt64 >>> ((1 : Int32).toInt64.toUInt64 &&& Int64.toUInt64 63)).toInt64) &&& 6148914691236517205)).toUInt64 >>> ((2 : Int32).toInt64.toUInt64 &&& Int64.toUInt64 63)).toInt64) &&& 3689348814741910323)) + (((((a1 - (((a1.toUInt64 >>> ((1 : Int32).toInt64.toUInt64 &&& Int64.toUInt64 63)).toInt64) &&& 6148914691236517205)) &&& 3689348814741910323) + ((((a1 - (((a1.toUInt64 >>> ((1 : Int32).toInt64.toUInt64 &&& Int64.toUInt64 63)).toInt64) &&& 6148914691236517205)).toUInt64 >>> ((2 : Int32).toInt64.toUInt64 &&& Int64.toUInt64 63)).toInt64) &&& 3689348814741910323)).toUInt64 >>> ((4 : Int32).toInt64.toUInt64 &&& Int64.toUInt64 63)).toInt64)) &&& 1085102592571150095) + (((((((a1 - (((a1.toUInt64 >>> ((1 : Int32).toInt64.toUInt64 &&& Int64.toUInt64 63)).toInt64) &&& 6148914691236517205)) &&& 3689348814741910323) + ((((a1 - (((a1.toUInt64 >>> ((1 : Int32).toInt64.toUInt64 &&& Int64.toUInt64 63)).toInt64) &&& 6148914691236517205)).toUInt64 >>> ((2 : Int32).toInt64.toUInt64 &&& Int64.toUInt64 63)).toInt64) &&& 3689348814741910323)) + (((((a1 - (((a1.toUInt64 >>> ((1 : Int32).toInt64.toUInt64 &&& Int64.toUInt64 63)).toInt64) &&& 6148914691236517205)) &&& 3689348814741910323) + ((((a1 - (((a1.toUInt64 >>> ((1 : Int32).toInt64.toUInt64 &&& Int64.toUInt64 63)).toInt64) &&& 6148914691236517205)).toUInt64 >>> ((2 : Int32).toInt64.toUInt64 &&& Int64.toUInt64 63)).toInt64) &&& 3689348814741910323)).toUInt64 >>> ((4 : Int32).toInt64.toUInt64 &&& Int64.toUInt64 63)).toInt64)) &&& 1085102592571150095).toUInt64 >>> ((8 : Int32).toInt64.toUInt64 &&& Int64.toUInt64 63)).toInt64)) + ((((((((a1 - (((a1.toUInt64 >>> ((1 : Int32).toInt64.toUInt64 &&& Int64.toUInt64 63)).toInt64) &&& 6148914691236517205)) &&& 3689348814741910323) + ((((a1 - (((a1.toUInt64 >>> ((1 : Int32).toInt64.toUInt64 &&& Int64.toUInt64 63)).toInt64) &&& 6148914691236517205)).toUInt64 >>> ((2 : Int32).toInt64.toUInt64 &&& Int64.toUInt64 63)).toInt64) &&& 3689348814741910323)) + (((((a1 - (((a1.toUInt64 >>> ((1 : Int32).toInt64.toUInt64 &&& Int64.toUInt64 63)).toInt64) &&& 6148914691236517205)) &&& 3689348814741910323) + ((((a1 - (((a1.toUInt64 >>> ((1 : Int32).toInt64.toUInt64 &&& Int64.toUInt64 63)).toInt64) &&& 6148914691236517205)).toUInt64 >>> ((2 : Int32).toInt64.toUInt64 &&& Int64.toUInt64 63)).toInt64) &&& 3689348814741910323)).toUInt64 >>> ((4 : Int32).toInt64.toUInt64 &&& Int64.toUInt64 63)).toInt64)) &&& 1085102592571150095) + (((((((a1 - (((a1.toUInt64 >>> ((1 : Int32).toInt64.toUInt64 &&& Int64.toUInt64 63)).toInt64) &&& 6148914691236517205)) &&& 3689348814741910323) + ((((a1 - (((a1.toUInt64 >>> ((1 : Int32).toInt64.toUInt64 &&& Int64.toUInt64 63)).toInt64) &&& 6148914691236517205)).toUInt64 >>> ((2 : Int32).toInt64.toUInt64 &&& Int64.toUInt64 63)).toInt64) &&& 3689348814741910323)) + (((((a1 - (((a1.toUInt64 >>> ((1 : Int32).toInt64.toUInt64 &&& Int64.toUInt64 63)).toInt64) &&& 6148914691236517205)) &&& 3689348814741910323) + ((((a1 - (((a1.toUInt64 >>> ((1 : Int32).toInt64.toUInt64 &&& Int64.toUInt64 63)).toInt64) &&& 6148914691236517205)).toUInt64 >>> ((2 : Int32).toInt64.toUInt64 &&& Int64.toUInt64 63)).toInt64) &&& 3689348814741910323)).toUInt64 >>> ((4 : Int32).toInt64.toUInt64 &&& Int64.toUInt64 63)).toInt64)) &&& 1085102592571150095).toUInt64 >>> ((8 : Int32).toInt64.toUInt64 &&& Int64.toUInt64 63)).toInt64)).toUInt64 >>> ((16 : Int32).toInt64.toUInt64 &&& Int64.toUInt64 63)).toInt64)).toUInt64 >>> ((32 : Int32).toInt64.toUInt64 &&& Int64.toUInt64 63)).toInt64))), none]) dJ13_bitCount_95d88_54 rfl (by decide) rfl ?_
  refine tr_lload_n C (i := 0) dJ13_bitCount_95d88_55 rfl rfl ?_
  refine tr_l2i C dJ13_bitCount_95d88_56 ?_
  refine tr_bipush C (v := 127) dJ13_bitCount_95d88_57 (by decide) ?_
  refine tr_iand C dJ13_bitCount_95d88_59 ?_
  exact tr_iretP C hr hlk dJ13_bitCount_95d88_60
def fX0_heaps (b : Nat) (σ : Mem) : Option (Int32) :=
  bn1 (fX0_heapBits b σ) fun r1 => (
    bn1 (fJ13_bitCount_95d88 r1 σ) fun r2 => (
      some r2
    )
  )
set_option maxHeartbeats 4000000 in
set_option maxRecDepth 100000 in
theorem kX0_heaps (l : Launch) (g : GG) (cs : CS) (ad : Nat → Nat) (b : Nat) (hb : isFl b) (σ : Mem) : CtI l g cs ad (shC g) mX0_heaps (.code mX0_heaps cX0_heaps 1 (some .int)) { frames := 1, cells := 0, slots := 0, locals := 23 } [.ref (ad b)] σ (pur (fX0_heaps b σ) σ) := by
  refine ctIP_intro (own := "KinInTheHeap$Floor") (by decide +kernel) rfl [some (.ref (ad b))] (Nat.le_of_ble_eq_true rfl) rfl ?_
  intro p e s m args below meth c A C hr hlk
  refine tr_aload_n C (i := 0) dX0_heaps_0 rfl rfl ?_
  refine tr_cVLP C (av := []) (st := []) (kX0_heapBits l g cs ad b hb σ) mwX0_heapBits w708 (fl_0 hb) rfl ⟨rfl, rfl⟩ ⟨(Nat.le_of_ble_eq_true rfl), (Nat.le_of_ble_eq_true rfl)⟩ rfl rfl (Nat.le_of_ble_eq_true rfl) dX0_heaps_1 (fun r1 hr1 => ?_)
  refine tr_cSIP C (av := [.long r1]) (st := []) (kJ13_bitCount_95d88 l g cs ad r1 σ) mwJ13_bitCount_95d88 w712 ⟨rfl, rfl⟩ ⟨(Nat.le_of_ble_eq_true rfl), (Nat.le_of_ble_eq_true rfl)⟩ rfl rfl (Nat.le_of_ble_eq_true rfl) dX0_heaps_4 (fun r2 hr2 => ?_)
  exact tr_iretP C hr hlk dX0_heaps_7
def fX0_kin_L4 (b : Nat) (a1 : Int32) (σ : Mem) (ih4 : Int32 × Int32 → Option (Int32)) : Int32 × Int32 → Option (Int32) := fun v => match v with
  | (y2_4, y3_4) =>
    if (σ.1 b 7) ≤ y3_4 then (
      some y2_4
    ) else (
      gd (inB y3_4 8) (
        gd (inB a1 8) (
          if (rd σ (b + 3) y3_4) = (rd σ (b + 3) a1) then (
            ih4 (y2_4 + 1, y3_4 + 1)
          ) else (
            ih4 (y2_4, y3_4 + 1)
          )
        )
      )
    )
def fX0_kin (b : Nat) (a1 : Int32) (σ : Mem) : Option (Int32) :=
  loopN (fX0_kin_L4 b a1 σ) 1000 (0, 0)
set_option maxHeartbeats 4000000 in
set_option maxRecDepth 100000 in
theorem kX0_kin (l : Launch) (g : GG) (cs : CS) (ad : Nat → Nat) (b : Nat) (a1 : Int32) (hb : isFl b) (σ : Mem) : CtI l g cs ad (shC g) mX0_kin (.code mX0_kin cX0_kin 4 (some .int)) { frames := 0, cells := 0, slots := 0, locals := 0 } [.ref (ad b), .int a1] σ (pur (fX0_kin b a1 σ) σ) := by
  refine ctIP_intro (own := "KinInTheHeap$Floor") (by decide +kernel) rfl [some (.ref (ad b)), some (.int a1), none, none] (Nat.le_of_ble_eq_true rfl) rfl ?_
  intro p e s m args below meth c A C hr hlk
  refine tr_iconst C (v := 0) dX0_kin_0 (by decide) ?_
  refine tr_istore_n C (i := 2) (lv' := [some (.ref (ad b)), some (.int a1), some (.int 0), none]) dX0_kin_1 rfl (by decide) rfl ?_
  refine tr_iconst C (v := 0) dX0_kin_2 (by decide) ?_
  refine tr_istore_n C (i := 3) (lv' := [some (.ref (ad b)), some (.int a1), some (.int 0), some (.int 0)]) dX0_kin_3 rfl (by decide) rfl ?_
  refine tr_loop (b := fX0_kin_L4 b a1 σ) (sg := fun v => σ) (lw := fun v => [some (.ref (ad b)), some (.int a1), some (.int v.1), some (.int v.2)]) (sw := fun v => []) (fun ih4 IH4 v => ?_) 1000 (0, 0)
  obtain ⟨y2_4, y3_4⟩ := v
  refine tr_st (σ' := σ) (lv' := [some (.ref (ad b)), some (.int a1), some (.int y2_4), some (.int y3_4)]) (st' := []) rfl rfl rfl ?_
  refine tr_iload_n C (i := 3) dX0_kin_4 rfl rfl ?_
  refine tr_aload_n C (i := 0) dX0_kin_5 rfl rfl ?_
  refine tr_getI C (k := 7) (ci := 0) (fl_0 hb) rfl rfl inT0 rfl (by decide) w236 dX0_kin_6 ?_
  refine tr_icmp_ge C (tgt := 36) dX0_kin_9 (by decide) (fun q4 => ?_) (fun q4 => ?_)
  · refine tr_iload_n C (i := 2) dX0_kin_36 rfl rfl ?_
    exact tr_iretP C hr hlk dX0_kin_37
  · refine tr_aload_n C (i := 0) dX0_kin_12 rfl rfl ?_
    refine tr_getR C (k := 2) (ci := 0) (fl_0 hb) rfl rfl inT0 rfl (by decide) w226 dX0_kin_13 ?_
    refine tr_iload_n C (i := 3) dX0_kin_16 rfl rfl ?_
    refine tr_iald C (n := 8) (fl_3 hb) dX0_kin_17 (fun h3 => ?_)
    refine tr_aload_n C (i := 0) dX0_kin_18 rfl rfl ?_
    refine tr_getR C (k := 2) (ci := 0) (fl_0 hb) rfl rfl inT0 rfl (by decide) w226 dX0_kin_19 ?_
    refine tr_iload_n C (i := 1) dX0_kin_22 rfl rfl ?_
    refine tr_iald C (n := 8) (fl_3 hb) dX0_kin_23 (fun h2 => ?_)
    refine tr_icmp_ne C (tgt := 30) dX0_kin_24 (by decide) (fun q1 => ?_) (fun q1 => ?_)
    · refine tr_iinc C (i := 2) (d := 1) (lv' := [some (.ref (ad b)), some (.int a1), some (.int (y2_4 + 1)), some (.int y3_4)]) dX0_kin_27 rfl (by decide) (by decide) rfl ?_
      refine tr_iinc C (i := 3) (d := 1) (lv' := [some (.ref (ad b)), some (.int a1), some (.int (y2_4 + 1)), some (.int (y3_4 + 1))]) dX0_kin_30 rfl (by decide) (by decide) rfl ?_
      refine tr_goto C (tgt := 4) dX0_kin_33 (by decide) ?_
      exact IH4 (y2_4 + 1, y3_4 + 1)
    · refine tr_iinc C (i := 3) (d := 1) (lv' := [some (.ref (ad b)), some (.int a1), some (.int y2_4), some (.int (y3_4 + 1))]) dX0_kin_30 rfl (by decide) (by decide) rfl ?_
      refine tr_goto C (tgt := 4) dX0_kin_33 (by decide) ?_
      exact IH4 (y2_4, y3_4 + 1)
def fX0_greatest_L4 (b : Nat) (σ : Mem) (ih4 : Int32 × Int32 → Option (Int32)) : Int32 × Int32 → Option (Int32) := fun v => match v with
  | (y1_4, y2_4) =>
    if (σ.1 b 7) ≤ y2_4 then (
      some y1_4
    ) else (
      gd (inB y2_4 8) (
        if (rd σ (b + 3) y2_4) = (-1) then (
          ih4 (y1_4, y2_4 + 1)
        ) else (
          bn1 (fX0_kin b y2_4 σ) fun r1 => (
            ih4 (if y1_4 < r1 then r1 else y1_4, y2_4 + 1)
          )
        )
      )
    )
def fX0_greatest (b : Nat) (σ : Mem) : Option (Int32) :=
  loopN (fX0_greatest_L4 b σ) 1000 (0, 0)
set_option maxHeartbeats 4000000 in
set_option maxRecDepth 100000 in
theorem kX0_greatest (l : Launch) (g : GG) (cs : CS) (ad : Nat → Nat) (b : Nat) (hb : isFl b) (σ : Mem) : CtI l g cs ad (shC g) mX0_greatest (.code mX0_greatest cX0_greatest 3 (some .int)) { frames := 1, cells := 0, slots := 0, locals := 23 } [.ref (ad b)] σ (pur (fX0_greatest b σ) σ) := by
  refine ctIP_intro (own := "KinInTheHeap$Floor") (by decide +kernel) rfl [some (.ref (ad b)), none, none] (Nat.le_of_ble_eq_true rfl) rfl ?_
  intro p e s m args below meth c A C hr hlk
  refine tr_iconst C (v := 0) dX0_greatest_0 (by decide) ?_
  refine tr_istore_n C (i := 1) (lv' := [some (.ref (ad b)), some (.int 0), none]) dX0_greatest_1 rfl (by decide) rfl ?_
  refine tr_iconst C (v := 0) dX0_greatest_2 (by decide) ?_
  refine tr_istore_n C (i := 2) (lv' := [some (.ref (ad b)), some (.int 0), some (.int 0)]) dX0_greatest_3 rfl (by decide) rfl ?_
  refine tr_loop (b := fX0_greatest_L4 b σ) (sg := fun v => σ) (lw := fun v => [some (.ref (ad b)), some (.int v.1), some (.int v.2)]) (sw := fun v => []) (fun ih4 IH4 v => ?_) 1000 (0, 0)
  obtain ⟨y1_4, y2_4⟩ := v
  refine tr_st (σ' := σ) (lv' := [some (.ref (ad b)), some (.int y1_4), some (.int y2_4)]) (st' := []) rfl rfl rfl ?_
  refine tr_iload_n C (i := 2) dX0_greatest_4 rfl rfl ?_
  refine tr_aload_n C (i := 0) dX0_greatest_5 rfl rfl ?_
  refine tr_getI C (k := 7) (ci := 0) (fl_0 hb) rfl rfl inT0 rfl (by decide) w236 dX0_greatest_6 ?_
  refine tr_icmp_ge C (tgt := 38) dX0_greatest_9 (by decide) (fun q4 => ?_) (fun q4 => ?_)
  · refine tr_iload_n C (i := 1) dX0_greatest_38 rfl rfl ?_
    exact tr_iretP C hr hlk dX0_greatest_39
  · refine tr_aload_n C (i := 0) dX0_greatest_12 rfl rfl ?_
    refine tr_getR C (k := 2) (ci := 0) (fl_0 hb) rfl rfl inT0 rfl (by decide) w226 dX0_greatest_13 ?_
    refine tr_iload_n C (i := 2) dX0_greatest_16 rfl rfl ?_
    refine tr_iald C (n := 8) (fl_3 hb) dX0_greatest_17 (fun h3 => ?_)
    refine tr_iconst C (v := -1) dX0_greatest_18 (by decide) ?_
    refine tr_icmp_eq C (tgt := 32) dX0_greatest_19 (by decide) (fun q2 => ?_) (fun q2 => ?_)
    · refine tr_iinc C (i := 2) (d := 1) (lv' := [some (.ref (ad b)), some (.int y1_4), some (.int (y2_4 + 1))]) dX0_greatest_32 rfl (by decide) (by decide) rfl ?_
      refine tr_goto C (tgt := 4) dX0_greatest_35 (by decide) ?_
      exact IH4 (y1_4, y2_4 + 1)
    · refine tr_iload_n C (i := 1) dX0_greatest_22 rfl rfl ?_
      refine tr_aload_n C (i := 0) dX0_greatest_23 rfl rfl ?_
      refine tr_iload_n C (i := 2) dX0_greatest_24 rfl rfl ?_
      refine tr_cVIP C (av := [.int y2_4]) (st := [.int y1_4]) (kX0_kin l g cs ad b y2_4 hb σ) mwX0_kin w376 (fl_0 hb) rfl ⟨rfl, rfl⟩ ⟨(Nat.le_of_ble_eq_true rfl), (Nat.le_of_ble_eq_true rfl)⟩ rfl rfl (Nat.le_of_ble_eq_true rfl) dX0_greatest_25 (fun r1 hr1 => ?_)
      refine tr_mmax C w390 (Nat.le_of_ble_eq_true rfl) (Nat.le_of_ble_eq_true rfl) dX0_greatest_28 ?_
      refine tr_istore_n C (i := 1) (lv' := [some (.ref (ad b)), some (.int (if y1_4 < r1 then r1 else y1_4)), some (.int y2_4)]) dX0_greatest_31 rfl (by decide) rfl ?_
      refine tr_iinc C (i := 2) (d := 1) (lv' := [some (.ref (ad b)), some (.int (if y1_4 < r1 then r1 else y1_4)), some (.int (y2_4 + 1))]) dX0_greatest_32 rfl (by decide) (by decide) rfl ?_
      refine tr_goto C (tgt := 4) dX0_greatest_35 (by decide) ?_
      exact IH4 (if y1_4 < r1 then r1 else y1_4, y2_4 + 1)
def fX0_together_L14 (b : Nat) (σ : Mem) (ih4 : Int32 × Int32 → Option (Int32)) (ih14 : Int32 × Int32 × Int32 → Option (Int32)) : Int32 × Int32 × Int32 → Option (Int32) := fun v => match v with
  | (y1_14, y2_14, y3_14) =>
    if y2_14 ≤ y3_14 then (
      ih4 (y1_14, y2_14 + 1)
    ) else (
      gd (inB y2_14 8) (
        if (rd σ (b + 3) y2_14) = (-1) then (
          ih14 (y1_14, y2_14, y3_14 + 1)
        ) else (
          gd (inB y2_14 8) (
            gd (inB y3_14 8) (
              if (rd σ (b + 3) y2_14) = (rd σ (b + 3) y3_14) then (
                ih14 (y1_14 + 1, y2_14, y3_14 + 1)
              ) else (
                ih14 (y1_14, y2_14, y3_14 + 1)
              )
            )
          )
        )
      )
    )
def fX0_together_L4 (b : Nat) (σ : Mem) (ih4 : Int32 × Int32 → Option (Int32)) : Int32 × Int32 → Option (Int32) := fun v => match v with
  | (y1_4, y2_4) =>
    if (σ.1 b 7) ≤ y2_4 then (
      some y1_4
    ) else (
      loopN (fX0_together_L14 b σ ih4) 1000 (y1_4, y2_4, 0)
    )
def fX0_together (b : Nat) (σ : Mem) : Option (Int32) :=
  loopN (fX0_together_L4 b σ) 1000 (0, 0)
set_option maxHeartbeats 4000000 in
set_option maxRecDepth 100000 in
theorem kX0_together (l : Launch) (g : GG) (cs : CS) (ad : Nat → Nat) (b : Nat) (hb : isFl b) (σ : Mem) : CtI l g cs ad (shC g) mX0_together (.code mX0_together cX0_together 4 (some .int)) { frames := 0, cells := 0, slots := 0, locals := 0 } [.ref (ad b)] σ (pur (fX0_together b σ) σ) := by
  refine ctIP_intro (own := "KinInTheHeap$Floor") (by decide +kernel) rfl [some (.ref (ad b)), none, none, none] (Nat.le_of_ble_eq_true rfl) rfl ?_
  intro p e s m args below meth c A C hr hlk
  refine tr_iconst C (v := 0) dX0_together_0 (by decide) ?_
  refine tr_istore_n C (i := 1) (lv' := [some (.ref (ad b)), some (.int 0), none, none]) dX0_together_1 rfl (by decide) rfl ?_
  refine tr_iconst C (v := 0) dX0_together_2 (by decide) ?_
  refine tr_istore_n C (i := 2) (lv' := [some (.ref (ad b)), some (.int 0), some (.int 0), none]) dX0_together_3 rfl (by decide) rfl ?_
  refine tr_loop (b := fX0_together_L4 b σ) (sg := fun v => σ) (lw := fun v => [some (.ref (ad b)), some (.int v.1), some (.int v.2), none]) (sw := fun v => []) (fun ih4 IH4 v => ?_) 1000 (0, 0)
  obtain ⟨y1_4, y2_4⟩ := v
  refine tr_st (σ' := σ) (lv' := [some (.ref (ad b)), some (.int y1_4), some (.int y2_4), none]) (st' := []) rfl rfl rfl ?_
  refine tr_iload_n C (i := 2) dX0_together_4 rfl rfl ?_
  refine tr_aload_n C (i := 0) dX0_together_5 rfl rfl ?_
  refine tr_getI C (k := 7) (ci := 0) (fl_0 hb) rfl rfl inT0 rfl (by decide) w236 dX0_together_6 ?_
  refine tr_icmp_ge C (tgt := 59) dX0_together_9 (by decide) (fun q7 => ?_) (fun q7 => ?_)
  · refine tr_iload_n C (i := 1) dX0_together_59 rfl rfl ?_
    exact tr_iretP C hr hlk dX0_together_60
  · refine tr_iconst C (v := 0) dX0_together_12 (by decide) ?_
    refine tr_istore_n C (i := 3) (lv' := [some (.ref (ad b)), some (.int y1_4), some (.int y2_4), some (.int 0)]) dX0_together_13 rfl (by decide) rfl ?_
    refine tr_loop (b := fX0_together_L14 b σ ih4) (sg := fun v => σ) (lw := fun v => [some (.ref (ad b)), some (.int v.1), some (.int v.2.1), some (.int v.2.2)]) (sw := fun v => []) (fun ih14 IH14 v => ?_) 1000 (y1_4, y2_4, 0)
    obtain ⟨y1_14, y2_14, y3_14⟩ := v
    refine tr_st (σ' := σ) (lv' := [some (.ref (ad b)), some (.int y1_14), some (.int y2_14), some (.int y3_14)]) (st' := []) rfl rfl rfl ?_
    refine tr_iload_n C (i := 3) dX0_together_14 rfl rfl ?_
    refine tr_iload_n C (i := 2) dX0_together_15 rfl rfl ?_
    refine tr_icmp_ge C (tgt := 53) dX0_together_16 (by decide) (fun q6 => ?_) (fun q6 => ?_)
    · refine tr_iinc C (i := 2) (d := 1) (lv' := [some (.ref (ad b)), some (.int y1_14), some (.int (y2_14 + 1)), some (.int y3_14)]) dX0_together_53 rfl (by decide) (by decide) rfl ?_
      refine tr_goto C (tgt := 4) dX0_together_56 (by decide) ?_
      refine tr_mask [true, true, true, false] rfl ?_
      exact IH4 (y1_14, y2_14 + 1)
    · refine tr_aload_n C (i := 0) dX0_together_19 rfl rfl ?_
      refine tr_getR C (k := 2) (ci := 0) (fl_0 hb) rfl rfl inT0 rfl (by decide) w226 dX0_together_20 ?_
      refine tr_iload_n C (i := 2) dX0_together_23 rfl rfl ?_
      refine tr_iald C (n := 8) (fl_3 hb) dX0_together_24 (fun h5 => ?_)
      refine tr_iconst C (v := -1) dX0_together_25 (by decide) ?_
      refine tr_icmp_eq C (tgt := 47) dX0_together_26 (by decide) (fun q4 => ?_) (fun q4 => ?_)
      · refine tr_iinc C (i := 3) (d := 1) (lv' := [some (.ref (ad b)), some (.int y1_14), some (.int y2_14), some (.int (y3_14 + 1))]) dX0_together_47 rfl (by decide) (by decide) rfl ?_
        refine tr_goto C (tgt := 14) dX0_together_50 (by decide) ?_
        exact IH14 (y1_14, y2_14, y3_14 + 1)
      · refine tr_aload_n C (i := 0) dX0_together_29 rfl rfl ?_
        refine tr_getR C (k := 2) (ci := 0) (fl_0 hb) rfl rfl inT0 rfl (by decide) w226 dX0_together_30 ?_
        refine tr_iload_n C (i := 2) dX0_together_33 rfl rfl ?_
        refine tr_iald C (n := 8) (fl_3 hb) dX0_together_34 (fun h3 => ?_)
        refine tr_aload_n C (i := 0) dX0_together_35 rfl rfl ?_
        refine tr_getR C (k := 2) (ci := 0) (fl_0 hb) rfl rfl inT0 rfl (by decide) w226 dX0_together_36 ?_
        refine tr_iload_n C (i := 3) dX0_together_39 rfl rfl ?_
        refine tr_iald C (n := 8) (fl_3 hb) dX0_together_40 (fun h2 => ?_)
        refine tr_icmp_ne C (tgt := 47) dX0_together_41 (by decide) (fun q1 => ?_) (fun q1 => ?_)
        · refine tr_iinc C (i := 1) (d := 1) (lv' := [some (.ref (ad b)), some (.int (y1_14 + 1)), some (.int y2_14), some (.int y3_14)]) dX0_together_44 rfl (by decide) (by decide) rfl ?_
          refine tr_iinc C (i := 3) (d := 1) (lv' := [some (.ref (ad b)), some (.int (y1_14 + 1)), some (.int y2_14), some (.int (y3_14 + 1))]) dX0_together_47 rfl (by decide) (by decide) rfl ?_
          refine tr_goto C (tgt := 14) dX0_together_50 (by decide) ?_
          exact IH14 (y1_14 + 1, y2_14, y3_14 + 1)
        · refine tr_iinc C (i := 3) (d := 1) (lv' := [some (.ref (ad b)), some (.int y1_14), some (.int y2_14), some (.int (y3_14 + 1))]) dX0_together_47 rfl (by decide) (by decide) rfl ?_
          refine tr_goto C (tgt := 14) dX0_together_50 (by decide) ?_
          exact IH14 (y1_14, y2_14, y3_14 + 1)
def fX0_spread_L14 (b : Nat) (σ : Mem) (ih4 : Int32 × Int32 → Option (Int32)) (ih14 : Int32 × Int32 × Int32 → Option (Int32)) : Int32 × Int32 × Int32 → Option (Int32) := fun v => match v with
  | (y1_14, y2_14, y3_14) =>
    if y2_14 ≤ y3_14 then (
      ih4 (y1_14, y2_14 + 1)
    ) else (
      gd (inB y2_14 8) (
        if (rd σ (b + 3) y2_14) = (-1) then (
          ih14 (y1_14, y2_14, y3_14 + 1)
        ) else (
          gd (inB y3_14 8) (
            if (rd σ (b + 3) y3_14) = (-1) then (
              ih14 (y1_14, y2_14, y3_14 + 1)
            ) else (
              gd (inB y2_14 8) (
                gd (inB y3_14 8) (
                  gd (inB y2_14 8) (
                    gd (inB y3_14 8) (
                      ih14 ((y1_14 + (if 0 ≤ (((rd σ (b + 3) y2_14) - (rd σ (b + 3) y2_14) / 6 * 6) - ((rd σ (b + 3) y3_14) - (rd σ (b + 3) y3_14) / 6 * 6)) then (((rd σ (b + 3) y2_14) - (rd σ (b + 3) y2_14) / 6 * 6) - ((rd σ (b + 3) y3_14) - (rd σ (b + 3) y3_14) / 6 * 6)) else 0 - (((rd σ (b + 3) y2_14) - (rd σ (b + 3) y2_14) / 6 * 6) - ((rd σ (b + 3) y3_14) - (rd σ (b + 3) y3_14) / 6 * 6)))) + (if 0 ≤ (((rd σ (b + 3) y2_14) / 6) - ((rd σ (b + 3) y3_14) / 6)) then (((rd σ (b + 3) y2_14) / 6) - ((rd σ (b + 3) y3_14) / 6)) else 0 - (((rd σ (b + 3) y2_14) / 6) - ((rd σ (b + 3) y3_14) / 6))), y2_14, y3_14 + 1)
                    )
                  )
                )
              )
            )
          )
        )
      )
    )
def fX0_spread_L4 (b : Nat) (σ : Mem) (ih4 : Int32 × Int32 → Option (Int32)) : Int32 × Int32 → Option (Int32) := fun v => match v with
  | (y1_4, y2_4) =>
    if (σ.1 b 7) ≤ y2_4 then (
      some y1_4
    ) else (
      loopN (fX0_spread_L14 b σ ih4) 1000 (y1_4, y2_4, 0)
    )
def fX0_spread (b : Nat) (σ : Mem) : Option (Int32) :=
  loopN (fX0_spread_L4 b σ) 1000 (0, 0)
set_option maxHeartbeats 4000000 in
set_option maxRecDepth 100000 in
theorem kX0_spread (l : Launch) (g : GG) (cs : CS) (ad : Nat → Nat) (b : Nat) (hb : isFl b) (σ : Mem) : CtI l g cs ad (shC g) mX0_spread (.code mX0_spread cX0_spread 4 (some .int)) { frames := 1, cells := 0, slots := 0, locals := 21 } [.ref (ad b)] σ (pur (fX0_spread b σ) σ) := by
  refine ctIP_intro (own := "KinInTheHeap$Floor") (by decide +kernel) rfl [some (.ref (ad b)), none, none, none] (Nat.le_of_ble_eq_true rfl) rfl ?_
  intro p e s m args below meth c A C hr hlk
  refine tr_iconst C (v := 0) dX0_spread_0 (by decide) ?_
  refine tr_istore_n C (i := 1) (lv' := [some (.ref (ad b)), some (.int 0), none, none]) dX0_spread_1 rfl (by decide) rfl ?_
  refine tr_iconst C (v := 0) dX0_spread_2 (by decide) ?_
  refine tr_istore_n C (i := 2) (lv' := [some (.ref (ad b)), some (.int 0), some (.int 0), none]) dX0_spread_3 rfl (by decide) rfl ?_
  refine tr_loop (b := fX0_spread_L4 b σ) (sg := fun v => σ) (lw := fun v => [some (.ref (ad b)), some (.int v.1), some (.int v.2), none]) (sw := fun v => []) (fun ih4 IH4 v => ?_) 1000 (0, 0)
  obtain ⟨y1_4, y2_4⟩ := v
  refine tr_st (σ' := σ) (lv' := [some (.ref (ad b)), some (.int y1_4), some (.int y2_4), none]) (st' := []) rfl rfl rfl ?_
  refine tr_iload_n C (i := 2) dX0_spread_4 rfl rfl ?_
  refine tr_aload_n C (i := 0) dX0_spread_5 rfl rfl ?_
  refine tr_getI C (k := 7) (ci := 0) (fl_0 hb) rfl rfl inT0 rfl (by decide) w236 dX0_spread_6 ?_
  refine tr_icmp_ge C (tgt := 101) dX0_spread_9 (by decide) (fun q10 => ?_) (fun q10 => ?_)
  · refine tr_iload_n C (i := 1) dX0_spread_101 rfl rfl ?_
    exact tr_iretP C hr hlk dX0_spread_102
  · refine tr_iconst C (v := 0) dX0_spread_12 (by decide) ?_
    refine tr_istore_n C (i := 3) (lv' := [some (.ref (ad b)), some (.int y1_4), some (.int y2_4), some (.int 0)]) dX0_spread_13 rfl (by decide) rfl ?_
    refine tr_loop (b := fX0_spread_L14 b σ ih4) (sg := fun v => σ) (lw := fun v => [some (.ref (ad b)), some (.int v.1), some (.int v.2.1), some (.int v.2.2)]) (sw := fun v => []) (fun ih14 IH14 v => ?_) 1000 (y1_4, y2_4, 0)
    obtain ⟨y1_14, y2_14, y3_14⟩ := v
    refine tr_st (σ' := σ) (lv' := [some (.ref (ad b)), some (.int y1_14), some (.int y2_14), some (.int y3_14)]) (st' := []) rfl rfl rfl ?_
    refine tr_iload_n C (i := 3) dX0_spread_14 rfl rfl ?_
    refine tr_iload_n C (i := 2) dX0_spread_15 rfl rfl ?_
    refine tr_icmp_ge C (tgt := 95) dX0_spread_16 (by decide) (fun q9 => ?_) (fun q9 => ?_)
    · refine tr_iinc C (i := 2) (d := 1) (lv' := [some (.ref (ad b)), some (.int y1_14), some (.int (y2_14 + 1)), some (.int y3_14)]) dX0_spread_95 rfl (by decide) (by decide) rfl ?_
      refine tr_goto C (tgt := 4) dX0_spread_98 (by decide) ?_
      refine tr_mask [true, true, true, false] rfl ?_
      exact IH4 (y1_14, y2_14 + 1)
    · refine tr_aload_n C (i := 0) dX0_spread_19 rfl rfl ?_
      refine tr_getR C (k := 2) (ci := 0) (fl_0 hb) rfl rfl inT0 rfl (by decide) w226 dX0_spread_20 ?_
      refine tr_iload_n C (i := 2) dX0_spread_23 rfl rfl ?_
      refine tr_iald C (n := 8) (fl_3 hb) dX0_spread_24 (fun h8 => ?_)
      refine tr_iconst C (v := -1) dX0_spread_25 (by decide) ?_
      refine tr_icmp_eq C (tgt := 89) dX0_spread_26 (by decide) (fun q7 => ?_) (fun q7 => ?_)
      · refine tr_iinc C (i := 3) (d := 1) (lv' := [some (.ref (ad b)), some (.int y1_14), some (.int y2_14), some (.int (y3_14 + 1))]) dX0_spread_89 rfl (by decide) (by decide) rfl ?_
        refine tr_goto C (tgt := 14) dX0_spread_92 (by decide) ?_
        exact IH14 (y1_14, y2_14, y3_14 + 1)
      · refine tr_aload_n C (i := 0) dX0_spread_29 rfl rfl ?_
        refine tr_getR C (k := 2) (ci := 0) (fl_0 hb) rfl rfl inT0 rfl (by decide) w226 dX0_spread_30 ?_
        refine tr_iload_n C (i := 3) dX0_spread_33 rfl rfl ?_
        refine tr_iald C (n := 8) (fl_3 hb) dX0_spread_34 (fun h6 => ?_)
        refine tr_iconst C (v := -1) dX0_spread_35 (by decide) ?_
        refine tr_icmp_eq C (tgt := 89) dX0_spread_36 (by decide) (fun q5 => ?_) (fun q5 => ?_)
        · refine tr_iinc C (i := 3) (d := 1) (lv' := [some (.ref (ad b)), some (.int y1_14), some (.int y2_14), some (.int (y3_14 + 1))]) dX0_spread_89 rfl (by decide) (by decide) rfl ?_
          refine tr_goto C (tgt := 14) dX0_spread_92 (by decide) ?_
          exact IH14 (y1_14, y2_14, y3_14 + 1)
        · refine tr_iload_n C (i := 1) dX0_spread_39 rfl rfl ?_
          refine tr_aload_n C (i := 0) dX0_spread_40 rfl rfl ?_
          refine tr_getR C (k := 2) (ci := 0) (fl_0 hb) rfl rfl inT0 rfl (by decide) w226 dX0_spread_41 ?_
          refine tr_iload_n C (i := 2) dX0_spread_44 rfl rfl ?_
          refine tr_iald C (n := 8) (fl_3 hb) dX0_spread_45 (fun h4 => ?_)
          refine tr_bipush C (v := 6) dX0_spread_46 (by decide) ?_
          refine tr_iremK C dX0_spread_48 (by decide) ?_
          refine tr_aload_n C (i := 0) dX0_spread_49 rfl rfl ?_
          refine tr_getR C (k := 2) (ci := 0) (fl_0 hb) rfl rfl inT0 rfl (by decide) w226 dX0_spread_50 ?_
          refine tr_iload_n C (i := 3) dX0_spread_53 rfl rfl ?_
          refine tr_iald C (n := 8) (fl_3 hb) dX0_spread_54 (fun h3 => ?_)
          refine tr_bipush C (v := 6) dX0_spread_55 (by decide) ?_
          refine tr_iremK C dX0_spread_57 (by decide) ?_
          refine tr_isub C dX0_spread_58 ?_
          refine tr_mabs C w722 (Nat.le_of_ble_eq_true rfl) (Nat.le_of_ble_eq_true rfl) dX0_spread_59 ?_
          refine tr_iadd C dX0_spread_62 ?_
          refine tr_istore_n C (i := 1) (lv' := [some (.ref (ad b)), some (.int (y1_14 + (if 0 ≤ (((rd σ (b + 3) y2_14) - (rd σ (b + 3) y2_14) / 6 * 6) - ((rd σ (b + 3) y3_14) - (rd σ (b + 3) y3_14) / 6 * 6)) then (((rd σ (b + 3) y2_14) - (rd σ (b + 3) y2_14) / 6 * 6) - ((rd σ (b + 3) y3_14) - (rd σ (b + 3) y3_14) / 6 * 6)) else 0 - (((rd σ (b + 3) y2_14) - (rd σ (b + 3) y2_14) / 6 * 6) - ((rd σ (b + 3) y3_14) - (rd σ (b + 3) y3_14) / 6 * 6))))), some (.int y2_14), some (.int y3_14)]) dX0_spread_63 rfl (by decide) rfl ?_
          refine tr_iload_n C (i := 1) dX0_spread_64 rfl rfl ?_
          refine tr_aload_n C (i := 0) dX0_spread_65 rfl rfl ?_
          refine tr_getR C (k := 2) (ci := 0) (fl_0 hb) rfl rfl inT0 rfl (by decide) w226 dX0_spread_66 ?_
          refine tr_iload_n C (i := 2) dX0_spread_69 rfl rfl ?_
          refine tr_iald C (n := 8) (fl_3 hb) dX0_spread_70 (fun h2 => ?_)
          refine tr_bipush C (v := 6) dX0_spread_71 (by decide) ?_
          refine tr_idivK C dX0_spread_73 (by decide) ?_
          refine tr_aload_n C (i := 0) dX0_spread_74 rfl rfl ?_
          refine tr_getR C (k := 2) (ci := 0) (fl_0 hb) rfl rfl inT0 rfl (by decide) w226 dX0_spread_75 ?_
          refine tr_iload_n C (i := 3) dX0_spread_78 rfl rfl ?_
          refine tr_iald C (n := 8) (fl_3 hb) dX0_spread_79 (fun h1 => ?_)
          refine tr_bipush C (v := 6) dX0_spread_80 (by decide) ?_
          refine tr_idivK C dX0_spread_82 (by decide) ?_
          refine tr_isub C dX0_spread_83 ?_
          refine tr_mabs C w722 (Nat.le_of_ble_eq_true rfl) (Nat.le_of_ble_eq_true rfl) dX0_spread_84 ?_
          refine tr_iadd C dX0_spread_87 ?_
          refine tr_istore_n C (i := 1) (lv' := [some (.ref (ad b)), some (.int ((y1_14 + (if 0 ≤ (((rd σ (b + 3) y2_14) - (rd σ (b + 3) y2_14) / 6 * 6) - ((rd σ (b + 3) y3_14) - (rd σ (b + 3) y3_14) / 6 * 6)) then (((rd σ (b + 3) y2_14) - (rd σ (b + 3) y2_14) / 6 * 6) - ((rd σ (b + 3) y3_14) - (rd σ (b + 3) y3_14) / 6 * 6)) else 0 - (((rd σ (b + 3) y2_14) - (rd σ (b + 3) y2_14) / 6 * 6) - ((rd σ (b + 3) y3_14) - (rd σ (b + 3) y3_14) / 6 * 6)))) + (if 0 ≤ (((rd σ (b + 3) y2_14) / 6) - ((rd σ (b + 3) y3_14) / 6)) then (((rd σ (b + 3) y2_14) / 6) - ((rd σ (b + 3) y3_14) / 6)) else 0 - (((rd σ (b + 3) y2_14) / 6) - ((rd σ (b + 3) y3_14) / 6))))), some (.int y2_14), some (.int y3_14)]) dX0_spread_88 rfl (by decide) rfl ?_
          refine tr_iinc C (i := 3) (d := 1) (lv' := [some (.ref (ad b)), some (.int ((y1_14 + (if 0 ≤ (((rd σ (b + 3) y2_14) - (rd σ (b + 3) y2_14) / 6 * 6) - ((rd σ (b + 3) y3_14) - (rd σ (b + 3) y3_14) / 6 * 6)) then (((rd σ (b + 3) y2_14) - (rd σ (b + 3) y2_14) / 6 * 6) - ((rd σ (b + 3) y3_14) - (rd σ (b + 3) y3_14) / 6 * 6)) else 0 - (((rd σ (b + 3) y2_14) - (rd σ (b + 3) y2_14) / 6 * 6) - ((rd σ (b + 3) y3_14) - (rd σ (b + 3) y3_14) / 6 * 6)))) + (if 0 ≤ (((rd σ (b + 3) y2_14) / 6) - ((rd σ (b + 3) y3_14) / 6)) then (((rd σ (b + 3) y2_14) / 6) - ((rd σ (b + 3) y3_14) / 6)) else 0 - (((rd σ (b + 3) y2_14) / 6) - ((rd σ (b + 3) y3_14) / 6))))), some (.int y2_14), some (.int (y3_14 + 1))]) dX0_spread_89 rfl (by decide) (by decide) rfl ?_
          refine tr_goto C (tgt := 14) dX0_spread_92 (by decide) ?_
          exact IH14 ((y1_14 + (if 0 ≤ (((rd σ (b + 3) y2_14) - (rd σ (b + 3) y2_14) / 6 * 6) - ((rd σ (b + 3) y3_14) - (rd σ (b + 3) y3_14) / 6 * 6)) then (((rd σ (b + 3) y2_14) - (rd σ (b + 3) y2_14) / 6 * 6) - ((rd σ (b + 3) y3_14) - (rd σ (b + 3) y3_14) / 6 * 6)) else 0 - (((rd σ (b + 3) y2_14) - (rd σ (b + 3) y2_14) / 6 * 6) - ((rd σ (b + 3) y3_14) - (rd σ (b + 3) y3_14) / 6 * 6)))) + (if 0 ≤ (((rd σ (b + 3) y2_14) / 6) - ((rd σ (b + 3) y3_14) / 6)) then (((rd σ (b + 3) y2_14) / 6) - ((rd σ (b + 3) y3_14) / 6)) else 0 - (((rd σ (b + 3) y2_14) / 6) - ((rd σ (b + 3) y3_14) / 6))), y2_14, y3_14 + 1)
def fX3_value_b214 (b : Nat) (a1 : Int32) (b2 : Nat) (ih20 : Mem × Int32 × Int32 → Option (Int32 × Mem)) (σ214 : Mem) (y3_214 : Int32) (y4_214 : Int32) : Option (Int32 × Mem) :=
  gd (inB (y3_214 - 1) 161) (stp (wr σ214 (b + 3) (y3_214 - 1) 1) fun σw16 => (
    ih20 (σw16, y3_214, y4_214 + 1)
  ))
def fX3_value_b238 (b : Nat) (a1 : Int32) (b2 : Nat) (ih20 : Mem × Int32 × Int32 → Option (Int32 × Mem)) (σ238 : Mem) (y3_238 : Int32) (y4_238 : Int32) : Option (Int32 × Mem) :=
  gd (inB (y3_238 - 1) 161) (stp (wr σ238 (b + 3) (y3_238 - 1) 0) fun σw22 => (
    ih20 (σw22, y3_238, y4_238 + 1)
  ))
def fX3_value_b115 (b : Nat) (a1 : Int32) (b2 : Nat) (ih20 : Mem × Int32 × Int32 → Option (Int32 × Mem)) (σ115 : Mem) (y3_115 : Int32) (y4_115 : Int32) (y5_115 : Int32) : Option (Int32 × Mem) :=
  if 1 ≤ y3_115 then (
    gd (inB (y3_115 - 1) 161) (
      gd (inB y3_115 161) (
        if y5_115 = (-17) then (
          if (rd σ115 (b + 3) (y3_115 - 1)) = (rd σ115 (b + 3) y3_115) then (
            gd (inB (y3_115 - 1) 161) (stp (wr σ115 (b + 3) (y3_115 - 1) 1) fun σw54 => (
              ih20 (σw54, y3_115, y4_115 + 1)
            ))
          ) else (
            gd (inB (y3_115 - 1) 161) (stp (wr σ115 (b + 3) (y3_115 - 1) 0) fun σw52 => (
              ih20 (σw52, y3_115, y4_115 + 1)
            ))
          )
        ) else (
          if y5_115 = (-16) then (
            if (rd σ115 (b + 3) y3_115) ≤ (rd σ115 (b + 3) (y3_115 - 1)) then (
              gd (inB (y3_115 - 1) 161) (stp (wr σ115 (b + 3) (y3_115 - 1) 0) fun σw47 => (
                ih20 (σw47, y3_115, y4_115 + 1)
              ))
            ) else (
              gd (inB (y3_115 - 1) 161) (stp (wr σ115 (b + 3) (y3_115 - 1) 1) fun σw49 => (
                ih20 (σw49, y3_115, y4_115 + 1)
              ))
            )
          ) else (
            if y5_115 = (-15) then (
              gd (inB (y3_115 - 1) 161) (stp (wr σ115 (b + 3) (y3_115 - 1) ((rd σ115 (b + 3) (y3_115 - 1)) * (rd σ115 (b + 3) y3_115))) fun σw45 => (
                ih20 (σw45, y3_115, y4_115 + 1)
              ))
            ) else (
              if y5_115 = (-14) then (
                gd (inB (y3_115 - 1) 161) (stp (wr σ115 (b + 3) (y3_115 - 1) ((rd σ115 (b + 3) (y3_115 - 1)) - (rd σ115 (b + 3) y3_115))) fun σw43 => (
                  ih20 (σw43, y3_115, y4_115 + 1)
                ))
              ) else (
                if y5_115 = (-13) then (
                  gd (inB (y3_115 - 1) 161) (stp (wr σ115 (b + 3) (y3_115 - 1) ((rd σ115 (b + 3) (y3_115 - 1)) + (rd σ115 (b + 3) y3_115))) fun σw41 => (
                    ih20 (σw41, y3_115, y4_115 + 1)
                  ))
                ) else (
                  if y5_115 = (-12) then (
                    gd (inB (y3_115 - 1) 161) (stp (wr σ115 (b + 3) (y3_115 - 1) (-(rd σ115 (b + 3) (y3_115 - 1)))) fun σw39 => (
                      ih20 (σw39, y3_115, y4_115 + 1)
                    ))
                  ) else (
                    if y5_115 = (-11) then (
                      gd (inB (y3_115 - 1) 161) (stp (wr σ115 (b + 3) (y3_115 - 1) (-(rd σ115 (b + 3) (y3_115 - 1)))) fun σw37 => (
                        ih20 (σw37, y3_115, y4_115 + 1)
                      ))
                    ) else (
                      if y5_115 = (-10) then (
                        gd (inB (y3_115 - 1) 161) (stp (wr σ115 (b + 3) (y3_115 - 1) (-(rd σ115 (b + 3) (y3_115 - 1)))) fun σw35 => (
                          ih20 (σw35, y3_115, y4_115 + 1)
                        ))
                      ) else (
                        if y5_115 = (-9) then (
                          gd (inB (y3_115 - 1) 161) (stp (wr σ115 (b + 3) (y3_115 - 1) (-(rd σ115 (b + 3) (y3_115 - 1)))) fun σw33 => (
                            ih20 (σw33, y3_115, y4_115 + 1)
                          ))
                        ) else (
                          if y5_115 = (-8) then (
                            if (rd σ115 (b + 3) (y3_115 - 1)) = 0 then (
                              gd (inB (y3_115 - 1) 161) (stp (wr σ115 (b + 3) (y3_115 - 1) 1) fun σw30 => (
                                ih20 (σw30, y3_115, y4_115 + 1)
                              ))
                            ) else (
                              gd (inB (y3_115 - 1) 161) (stp (wr σ115 (b + 3) (y3_115 - 1) 0) fun σw28 => (
                                ih20 (σw28, y3_115, y4_115 + 1)
                              ))
                            )
                          ) else (
                            if y5_115 = (-7) then (
                              if (rd σ115 (b + 3) (y3_115 - 1)) = 0 then (
                                fX3_value_b238 b a1 b2 ih20 σ115 y3_115 y4_115
                              ) else (
                                if (rd σ115 (b + 3) y3_115) = 0 then (
                                  fX3_value_b238 b a1 b2 ih20 σ115 y3_115 y4_115
                                ) else (
                                  gd (inB (y3_115 - 1) 161) (stp (wr σ115 (b + 3) (y3_115 - 1) 1) fun σw24 => (
                                    ih20 (σw24, y3_115, y4_115 + 1)
                                  ))
                                )
                              )
                            ) else (
                              if y5_115 = (-6) then (
                                if (rd σ115 (b + 3) (y3_115 - 1)) = 0 then (
                                  if (rd σ115 (b + 3) y3_115) = 0 then (
                                    gd (inB (y3_115 - 1) 161) (stp (wr σ115 (b + 3) (y3_115 - 1) 0) fun σw18 => (
                                      ih20 (σw18, y3_115, y4_115 + 1)
                                    ))
                                  ) else (
                                    fX3_value_b214 b a1 b2 ih20 σ115 y3_115 y4_115
                                  )
                                ) else (
                                  fX3_value_b214 b a1 b2 ih20 σ115 y3_115 y4_115
                                )
                              ) else (
                                gd (inB (y3_115 - 1) 161) (stp (wr σ115 (b + 3) (y3_115 - 1) (-(rd σ115 (b + 3) (y3_115 - 1)))) fun σw2 => (
                                  ih20 (σw2, y3_115, y4_115 + 1)
                                ))
                              )
                            )
                          )
                        )
                      )
                    )
                  )
                )
              )
            )
          )
        )
      )
    )
  ) else (
    some (0, σ115)
  )
def fX3_value_L20 (b : Nat) (a1 : Int32) (b2 : Nat) (ih20 : Mem × Int32 × Int32 → Option (Int32 × Mem)) : Mem × Int32 × Int32 → Option (Int32 × Mem) := fun v => match v with
  | (σ20, y3_20, y4_20) =>
    gd (inB a1 3) (
      if (rd σ20 (b + 2) a1) ≤ y4_20 then (
        gd (inB 0 161) (
          some (rd σ20 (b + 3) 0, σ20)
        )
      ) else (
        gd (inB y4_20 160) (
          if (rd σ20 (b + 1) y4_20) < 0 then (
            if (rd σ20 (b + 1) y4_20) = (-8) then (
              fX3_value_b115 b a1 b2 ih20 σ20 y3_20 y4_20 (rd σ20 (b + 1) y4_20)
            ) else (
              if (rd σ20 (b + 1) y4_20) = (-18) then (
                fX3_value_b115 b a1 b2 ih20 σ20 y3_20 y4_20 (rd σ20 (b + 1) y4_20)
              ) else (
                fX3_value_b115 b a1 b2 ih20 σ20 (y3_20 + (-1)) y4_20 (rd σ20 (b + 1) y4_20)
              )
            )
          ) else (
            if 160 ≤ y3_20 then (
              some (0, σ20)
            ) else (
              if ((rd σ20 (b + 1) y4_20) - 10000) < 6 then (
                if 10000 ≤ (rd σ20 (b + 1) y4_20) then (
                  gd (inB ((rd σ20 (b + 1) y4_20) - 10000) 6) (
                    gd (inB y3_20 161) (stp (wr σ20 (b + 3) y3_20 (rd σ20 b2 ((rd σ20 (b + 1) y4_20) - 10000))) fun σw62 => (
                      ih20 (σw62, y3_20 + 1, y4_20 + 1)
                    ))
                  )
                ) else (
                  gd (inB y3_20 161) (stp (wr σ20 (b + 3) y3_20 (rd σ20 (b + 1) y4_20)) fun σw65 => (
                    ih20 (σw65, y3_20 + 1, y4_20 + 1)
                  ))
                )
              ) else (
                some (0, σ20)
              )
            )
          )
        )
      )
    )
def fX3_value (b : Nat) (a1 : Int32) (b2 : Nat) (σ : Mem) : Option (Int32 × Mem) :=
  if a1 = 0 then (
    loopN (fX3_value_L20 b a1 b2) 1000 (σ, 0, 0)
  ) else (
    gd (inB (a1 - 1) 3) (
      loopN (fX3_value_L20 b a1 b2) 1000 (σ, 0, rd σ (b + 2) (a1 - 1))
    )
  )
set_option maxHeartbeats 4000000 in
set_option maxRecDepth 100000 in
theorem kX3_value (l : Launch) (g : GG) (cs : CS) (ad : Nat → Nat) (b : Nat) (a1 : Int32) (b2 : Nat) (hb : isTx b) (hb2 : isFa b2) (σ : Mem) : CtI l g cs ad (shC g) mX3_value (.code mX3_value cX3_value 8 (some .int)) { frames := 0, cells := 0, slots := 0, locals := 0 } [.ref (ad b), .int a1, .ref (ad b2)] σ (fX3_value b a1 b2 σ) := by
  refine ctI_intro (own := "KinInTheHeap$Text") (by decide +kernel) rfl [some (.ref (ad b)), some (.int a1), some (.ref (ad b2)), none, none, none, none, none] (Nat.le_of_ble_eq_true rfl) rfl ?_
  intro p e s m args below meth c A C hr hlk
  refine tr_iconst C (v := 0) dX3_value_0 (by decide) ?_
  refine tr_istore_n C (i := 3) (lv' := [some (.ref (ad b)), some (.int a1), some (.ref (ad b2)), some (.int 0), none, none, none, none]) dX3_value_1 rfl (by decide) rfl ?_
  refine tr_iload_n C (i := 1) dX3_value_2 rfl rfl ?_
  refine tr_if_ne C (tgt := 10) dX3_value_3 (by decide) (fun q90 => ?_) (fun q90 => ?_)
  · refine tr_iconst C (v := 0) dX3_value_6 (by decide) ?_
    refine tr_goto C (tgt := 18) dX3_value_7 (by decide) ?_
    refine tr_istore C (i := 4) (lv' := [some (.ref (ad b)), some (.int a1), some (.ref (ad b2)), some (.int 0), some (.int 0), none, none, none]) dX3_value_18 (by decide) rfl ?_
    refine tr_loop (b := fX3_value_L20 b a1 b2) (sg := fun v => v.1) (lw := fun v => [some (.ref (ad b)), some (.int a1), some (.ref (ad b2)), some (.int v.2.1), some (.int v.2.2), none, none, none]) (sw := fun v => []) (fun ih20 IH20 v => ?_) 1000 (σ, 0, 0)
    obtain ⟨σ20, y3_20, y4_20⟩ := v
    refine tr_st (σ' := σ20) (lv' := [some (.ref (ad b)), some (.int a1), some (.ref (ad b2)), some (.int y3_20), some (.int y4_20), none, none, none]) (st' := []) rfl rfl rfl ?_
    refine tr_iload C (i := 4) dX3_value_20 rfl ?_
    refine tr_aload_n C (i := 0) dX3_value_22 rfl rfl ?_
    refine tr_getR C (k := 1) (ci := 3) (tx_0 hb) rfl rfl inT3 rfl (by decide) w167 dX3_value_23 ?_
    refine tr_iload_n C (i := 1) dX3_value_26 rfl rfl ?_
    refine tr_iald C (n := 3) (tx_2 hb) dX3_value_27 (fun h89 => ?_)
    refine tr_icmp_ge C (tgt := 344) dX3_value_28 (by decide) (fun q88 => ?_) (fun q88 => ?_)
    · refine tr_aload_n C (i := 0) dX3_value_344 rfl rfl ?_
      refine tr_getR C (k := 2) (ci := 3) (tx_0 hb) rfl rfl inT3 rfl (by decide) w168 dX3_value_345 ?_
      refine tr_iconst C (v := 0) dX3_value_348 (by decide) ?_
      refine tr_iald C (n := 161) (tx_3 hb) dX3_value_349 (fun h75 => ?_)
      exact tr_iret C hr hlk dX3_value_350
    · refine tr_aload_n C (i := 0) dX3_value_31 rfl rfl ?_
      refine tr_getR C (k := 0) (ci := 3) (tx_0 hb) rfl rfl inT3 rfl (by decide) w166 dX3_value_32 ?_
      refine tr_iload C (i := 4) dX3_value_35 rfl ?_
      refine tr_iald C (n := 160) (tx_1 hb) dX3_value_37 (fun h87 => ?_)
      refine tr_istore C (i := 5) (lv' := [some (.ref (ad b)), some (.int a1), some (.ref (ad b2)), some (.int y3_20), some (.int y4_20), some (.int (rd σ20 (b + 1) y4_20)), none, none]) dX3_value_38 (by decide) rfl ?_
      refine tr_iload C (i := 5) dX3_value_40 rfl ?_
      refine tr_if_lt C (tgt := 98) dX3_value_42 (by decide) (fun q86 => ?_) (fun q86 => ?_)
      · refine tr_iload C (i := 5) dX3_value_98 rfl ?_
        refine tr_bipush C (v := -8) dX3_value_100 (by decide) ?_
        have B115 : ∀ (σ115 : Mem) (y3_115 : Int32) (y4_115 : Int32) (y5_115 : Int32), Tr p l e { frames := 0, cells := 0, slots := 0, locals := 0 } s m args below meth c g ad (shC g) A 8 (QI g ad (shC g) A below args s) (fX3_value_b115 b a1 b2 ih20 σ115 y3_115 y4_115 y5_115) σ115 115 [some (.ref (ad b)), some (.int a1), some (.ref (ad b2)), some (.int y3_115), some (.int y4_115), some (.int y5_115), none, none] [] := by
          intro σ115 y3_115 y4_115 y5_115
          refine tr_iload_n C (i := 3) dX3_value_115 rfl rfl ?_
          refine tr_iconst C (v := 1) dX3_value_116 (by decide) ?_
          refine tr_icmp_ge C (tgt := 122) dX3_value_117 (by decide) (fun q59 => ?_) (fun q59 => ?_)
          · refine tr_aload_n C (i := 0) dX3_value_122 rfl rfl ?_
            refine tr_getR C (k := 2) (ci := 3) (tx_0 hb) rfl rfl inT3 rfl (by decide) w168 dX3_value_123 ?_
            refine tr_iload_n C (i := 3) dX3_value_126 rfl rfl ?_
            refine tr_iconst C (v := 1) dX3_value_127 (by decide) ?_
            refine tr_isub C dX3_value_128 ?_
            refine tr_iald C (n := 161) (tx_3 hb) dX3_value_129 (fun h58 => ?_)
            refine tr_istore C (i := 6) (lv' := [some (.ref (ad b)), some (.int a1), some (.ref (ad b2)), some (.int y3_115), some (.int y4_115), some (.int y5_115), some (.int (rd σ115 (b + 3) (y3_115 - 1))), none]) dX3_value_130 (by decide) rfl ?_
            refine tr_aload_n C (i := 0) dX3_value_132 rfl rfl ?_
            refine tr_getR C (k := 2) (ci := 3) (tx_0 hb) rfl rfl inT3 rfl (by decide) w168 dX3_value_133 ?_
            refine tr_iload_n C (i := 3) dX3_value_136 rfl rfl ?_
            refine tr_iald C (n := 161) (tx_3 hb) dX3_value_137 (fun h57 => ?_)
            refine tr_istore C (i := 7) (lv' := [some (.ref (ad b)), some (.int a1), some (.ref (ad b2)), some (.int y3_115), some (.int y4_115), some (.int y5_115), some (.int (rd σ115 (b + 3) (y3_115 - 1))), some (.int (rd σ115 (b + 3) y3_115))]) dX3_value_138 (by decide) rfl ?_
            refine tr_iload C (i := 5) dX3_value_140 rfl ?_
            refine tr_ite (fun q4 => ?_) (fun q4 => ?_)
            · refine tr_tin C (k := (-17)) (tgt := 276) dX3_value_142 q4 (by decide) (by decide) rfl (by decide) ?_
              refine tr_iload C (i := 6) dX3_value_276 rfl ?_
              refine tr_iload C (i := 7) dX3_value_278 rfl ?_
              refine tr_icmp_ne C (tgt := 287) dX3_value_280 (by decide) (fun q56 => ?_) (fun q56 => ?_)
              · refine tr_iconst C (v := 1) dX3_value_283 (by decide) ?_
                refine tr_goto C (tgt := 288) dX3_value_284 (by decide) ?_
                refine tr_istore C (i := 6) (lv' := [some (.ref (ad b)), some (.int a1), some (.ref (ad b2)), some (.int y3_115), some (.int y4_115), some (.int y5_115), some (.int 1), some (.int (rd σ115 (b + 3) y3_115))]) dX3_value_288 (by decide) rfl ?_
                refine tr_goto C (tgt := 328) dX3_value_290 (by decide) ?_
                refine tr_aload_n C (i := 0) dX3_value_328 rfl rfl ?_
                refine tr_getR C (k := 2) (ci := 3) (tx_0 hb) rfl rfl inT3 rfl (by decide) w168 dX3_value_329 ?_
                refine tr_iload_n C (i := 3) dX3_value_332 rfl rfl ?_
                refine tr_iconst C (v := 1) dX3_value_333 (by decide) ?_
                refine tr_isub C dX3_value_334 ?_
                refine tr_iload C (i := 6) dX3_value_335 rfl ?_
                refine tr_iast C (n := 161) (σ' := wr σ115 (b + 3) (y3_115 - 1) 1) (tx_3 hb) dX3_value_337 rfl (fun h55 => ?_)
                refine tr_stp (fun σw54 eσw54 => ?_)
                refine tr_iinc C (i := 4) (d := 1) (lv' := [some (.ref (ad b)), some (.int a1), some (.ref (ad b2)), some (.int y3_115), some (.int (y4_115 + 1)), some (.int y5_115), some (.int 1), some (.int (rd σ115 (b + 3) y3_115))]) dX3_value_338 rfl (by decide) (by decide) rfl ?_
                refine tr_goto C (tgt := 20) dX3_value_341 (by decide) ?_
                refine tr_mask [true, true, true, true, true, false, false, false] rfl ?_
                exact IH20 (σw54, y3_115, y4_115 + 1)
              · refine tr_iconst C (v := 0) dX3_value_287 (by decide) ?_
                refine tr_istore C (i := 6) (lv' := [some (.ref (ad b)), some (.int a1), some (.ref (ad b2)), some (.int y3_115), some (.int y4_115), some (.int y5_115), some (.int 0), some (.int (rd σ115 (b + 3) y3_115))]) dX3_value_288 (by decide) rfl ?_
                refine tr_goto C (tgt := 328) dX3_value_290 (by decide) ?_
                refine tr_aload_n C (i := 0) dX3_value_328 rfl rfl ?_
                refine tr_getR C (k := 2) (ci := 3) (tx_0 hb) rfl rfl inT3 rfl (by decide) w168 dX3_value_329 ?_
                refine tr_iload_n C (i := 3) dX3_value_332 rfl rfl ?_
                refine tr_iconst C (v := 1) dX3_value_333 (by decide) ?_
                refine tr_isub C dX3_value_334 ?_
                refine tr_iload C (i := 6) dX3_value_335 rfl ?_
                refine tr_iast C (n := 161) (σ' := wr σ115 (b + 3) (y3_115 - 1) 0) (tx_3 hb) dX3_value_337 rfl (fun h53 => ?_)
                refine tr_stp (fun σw52 eσw52 => ?_)
                refine tr_iinc C (i := 4) (d := 1) (lv' := [some (.ref (ad b)), some (.int a1), some (.ref (ad b2)), some (.int y3_115), some (.int (y4_115 + 1)), some (.int y5_115), some (.int 0), some (.int (rd σ115 (b + 3) y3_115))]) dX3_value_338 rfl (by decide) (by decide) rfl ?_
                refine tr_goto C (tgt := 20) dX3_value_341 (by decide) ?_
                refine tr_mask [true, true, true, true, true, false, false, false] rfl ?_
                exact IH20 (σw52, y3_115, y4_115 + 1)
            · refine tr_ite (fun q5 => ?_) (fun q5 => ?_)
              · refine tr_tin C (k := (-16)) (tgt := 259) dX3_value_142 q5 (by decide) (by decide) rfl (by decide) ?_
                refine tr_iload C (i := 6) dX3_value_259 rfl ?_
                refine tr_iload C (i := 7) dX3_value_261 rfl ?_
                refine tr_icmp_ge C (tgt := 270) dX3_value_263 (by decide) (fun q51 => ?_) (fun q51 => ?_)
                · refine tr_iconst C (v := 0) dX3_value_270 (by decide) ?_
                  refine tr_istore C (i := 6) (lv' := [some (.ref (ad b)), some (.int a1), some (.ref (ad b2)), some (.int y3_115), some (.int y4_115), some (.int y5_115), some (.int 0), some (.int (rd σ115 (b + 3) y3_115))]) dX3_value_271 (by decide) rfl ?_
                  refine tr_goto C (tgt := 328) dX3_value_273 (by decide) ?_
                  refine tr_aload_n C (i := 0) dX3_value_328 rfl rfl ?_
                  refine tr_getR C (k := 2) (ci := 3) (tx_0 hb) rfl rfl inT3 rfl (by decide) w168 dX3_value_329 ?_
                  refine tr_iload_n C (i := 3) dX3_value_332 rfl rfl ?_
                  refine tr_iconst C (v := 1) dX3_value_333 (by decide) ?_
                  refine tr_isub C dX3_value_334 ?_
                  refine tr_iload C (i := 6) dX3_value_335 rfl ?_
                  refine tr_iast C (n := 161) (σ' := wr σ115 (b + 3) (y3_115 - 1) 0) (tx_3 hb) dX3_value_337 rfl (fun h48 => ?_)
                  refine tr_stp (fun σw47 eσw47 => ?_)
                  refine tr_iinc C (i := 4) (d := 1) (lv' := [some (.ref (ad b)), some (.int a1), some (.ref (ad b2)), some (.int y3_115), some (.int (y4_115 + 1)), some (.int y5_115), some (.int 0), some (.int (rd σ115 (b + 3) y3_115))]) dX3_value_338 rfl (by decide) (by decide) rfl ?_
                  refine tr_goto C (tgt := 20) dX3_value_341 (by decide) ?_
                  refine tr_mask [true, true, true, true, true, false, false, false] rfl ?_
                  exact IH20 (σw47, y3_115, y4_115 + 1)
                · refine tr_iconst C (v := 1) dX3_value_266 (by decide) ?_
                  refine tr_goto C (tgt := 271) dX3_value_267 (by decide) ?_
                  refine tr_istore C (i := 6) (lv' := [some (.ref (ad b)), some (.int a1), some (.ref (ad b2)), some (.int y3_115), some (.int y4_115), some (.int y5_115), some (.int 1), some (.int (rd σ115 (b + 3) y3_115))]) dX3_value_271 (by decide) rfl ?_
                  refine tr_goto C (tgt := 328) dX3_value_273 (by decide) ?_
                  refine tr_aload_n C (i := 0) dX3_value_328 rfl rfl ?_
                  refine tr_getR C (k := 2) (ci := 3) (tx_0 hb) rfl rfl inT3 rfl (by decide) w168 dX3_value_329 ?_
                  refine tr_iload_n C (i := 3) dX3_value_332 rfl rfl ?_
                  refine tr_iconst C (v := 1) dX3_value_333 (by decide) ?_
                  refine tr_isub C dX3_value_334 ?_
                  refine tr_iload C (i := 6) dX3_value_335 rfl ?_
                  refine tr_iast C (n := 161) (σ' := wr σ115 (b + 3) (y3_115 - 1) 1) (tx_3 hb) dX3_value_337 rfl (fun h50 => ?_)
                  refine tr_stp (fun σw49 eσw49 => ?_)
                  refine tr_iinc C (i := 4) (d := 1) (lv' := [some (.ref (ad b)), some (.int a1), some (.ref (ad b2)), some (.int y3_115), some (.int (y4_115 + 1)), some (.int y5_115), some (.int 1), some (.int (rd σ115 (b + 3) y3_115))]) dX3_value_338 rfl (by decide) (by decide) rfl ?_
                  refine tr_goto C (tgt := 20) dX3_value_341 (by decide) ?_
                  refine tr_mask [true, true, true, true, true, false, false, false] rfl ?_
                  exact IH20 (σw49, y3_115, y4_115 + 1)
              · refine tr_ite (fun q6 => ?_) (fun q6 => ?_)
                · refine tr_tin C (k := (-15)) (tgt := 313) dX3_value_142 q6 (by decide) (by decide) rfl (by decide) ?_
                  refine tr_iload C (i := 6) dX3_value_313 rfl ?_
                  refine tr_iload C (i := 7) dX3_value_315 rfl ?_
                  refine tr_imul C dX3_value_317 ?_
                  refine tr_istore C (i := 6) (lv' := [some (.ref (ad b)), some (.int a1), some (.ref (ad b2)), some (.int y3_115), some (.int y4_115), some (.int y5_115), some (.int ((rd σ115 (b + 3) (y3_115 - 1)) * (rd σ115 (b + 3) y3_115))), some (.int (rd σ115 (b + 3) y3_115))]) dX3_value_318 (by decide) rfl ?_
                  refine tr_goto C (tgt := 328) dX3_value_320 (by decide) ?_
                  refine tr_aload_n C (i := 0) dX3_value_328 rfl rfl ?_
                  refine tr_getR C (k := 2) (ci := 3) (tx_0 hb) rfl rfl inT3 rfl (by decide) w168 dX3_value_329 ?_
                  refine tr_iload_n C (i := 3) dX3_value_332 rfl rfl ?_
                  refine tr_iconst C (v := 1) dX3_value_333 (by decide) ?_
                  refine tr_isub C dX3_value_334 ?_
                  refine tr_iload C (i := 6) dX3_value_335 rfl ?_
                  refine tr_iast C (n := 161) (σ' := wr σ115 (b + 3) (y3_115 - 1) ((rd σ115 (b + 3) (y3_115 - 1)) * (rd σ115 (b + 3) y3_115))) (tx_3 hb) dX3_value_337 rfl (fun h46 => ?_)
                  refine tr_stp (fun σw45 eσw45 => ?_)
                  refine tr_iinc C (i := 4) (d := 1) (lv' := [some (.ref (ad b)), some (.int a1), some (.ref (ad b2)), some (.int y3_115), some (.int (y4_115 + 1)), some (.int y5_115), some (.int ((rd σ115 (b + 3) (y3_115 - 1)) * (rd σ115 (b + 3) y3_115))), some (.int (rd σ115 (b + 3) y3_115))]) dX3_value_338 rfl (by decide) (by decide) rfl ?_
                  refine tr_goto C (tgt := 20) dX3_value_341 (by decide) ?_
                  refine tr_mask [true, true, true, true, true, false, false, false] rfl ?_
                  exact IH20 (σw45, y3_115, y4_115 + 1)
                · refine tr_ite (fun q7 => ?_) (fun q7 => ?_)
                  · refine tr_tin C (k := (-14)) (tgt := 303) dX3_value_142 q7 (by decide) (by decide) rfl (by decide) ?_
                    refine tr_iload C (i := 6) dX3_value_303 rfl ?_
                    refine tr_iload C (i := 7) dX3_value_305 rfl ?_
                    refine tr_isub C dX3_value_307 ?_
                    refine tr_istore C (i := 6) (lv' := [some (.ref (ad b)), some (.int a1), some (.ref (ad b2)), some (.int y3_115), some (.int y4_115), some (.int y5_115), some (.int ((rd σ115 (b + 3) (y3_115 - 1)) - (rd σ115 (b + 3) y3_115))), some (.int (rd σ115 (b + 3) y3_115))]) dX3_value_308 (by decide) rfl ?_
                    refine tr_goto C (tgt := 328) dX3_value_310 (by decide) ?_
                    refine tr_aload_n C (i := 0) dX3_value_328 rfl rfl ?_
                    refine tr_getR C (k := 2) (ci := 3) (tx_0 hb) rfl rfl inT3 rfl (by decide) w168 dX3_value_329 ?_
                    refine tr_iload_n C (i := 3) dX3_value_332 rfl rfl ?_
                    refine tr_iconst C (v := 1) dX3_value_333 (by decide) ?_
                    refine tr_isub C dX3_value_334 ?_
                    refine tr_iload C (i := 6) dX3_value_335 rfl ?_
                    refine tr_iast C (n := 161) (σ' := wr σ115 (b + 3) (y3_115 - 1) ((rd σ115 (b + 3) (y3_115 - 1)) - (rd σ115 (b + 3) y3_115))) (tx_3 hb) dX3_value_337 rfl (fun h44 => ?_)
                    refine tr_stp (fun σw43 eσw43 => ?_)
                    refine tr_iinc C (i := 4) (d := 1) (lv' := [some (.ref (ad b)), some (.int a1), some (.ref (ad b2)), some (.int y3_115), some (.int (y4_115 + 1)), some (.int y5_115), some (.int ((rd σ115 (b + 3) (y3_115 - 1)) - (rd σ115 (b + 3) y3_115))), some (.int (rd σ115 (b + 3) y3_115))]) dX3_value_338 rfl (by decide) (by decide) rfl ?_
                    refine tr_goto C (tgt := 20) dX3_value_341 (by decide) ?_
                    refine tr_mask [true, true, true, true, true, false, false, false] rfl ?_
                    exact IH20 (σw43, y3_115, y4_115 + 1)
                  · refine tr_ite (fun q8 => ?_) (fun q8 => ?_)
                    · refine tr_tin C (k := (-13)) (tgt := 293) dX3_value_142 q8 (by decide) (by decide) rfl (by decide) ?_
                      refine tr_iload C (i := 6) dX3_value_293 rfl ?_
                      refine tr_iload C (i := 7) dX3_value_295 rfl ?_
                      refine tr_iadd C dX3_value_297 ?_
                      refine tr_istore C (i := 6) (lv' := [some (.ref (ad b)), some (.int a1), some (.ref (ad b2)), some (.int y3_115), some (.int y4_115), some (.int y5_115), some (.int ((rd σ115 (b + 3) (y3_115 - 1)) + (rd σ115 (b + 3) y3_115))), some (.int (rd σ115 (b + 3) y3_115))]) dX3_value_298 (by decide) rfl ?_
                      refine tr_goto C (tgt := 328) dX3_value_300 (by decide) ?_
                      refine tr_aload_n C (i := 0) dX3_value_328 rfl rfl ?_
                      refine tr_getR C (k := 2) (ci := 3) (tx_0 hb) rfl rfl inT3 rfl (by decide) w168 dX3_value_329 ?_
                      refine tr_iload_n C (i := 3) dX3_value_332 rfl rfl ?_
                      refine tr_iconst C (v := 1) dX3_value_333 (by decide) ?_
                      refine tr_isub C dX3_value_334 ?_
                      refine tr_iload C (i := 6) dX3_value_335 rfl ?_
                      refine tr_iast C (n := 161) (σ' := wr σ115 (b + 3) (y3_115 - 1) ((rd σ115 (b + 3) (y3_115 - 1)) + (rd σ115 (b + 3) y3_115))) (tx_3 hb) dX3_value_337 rfl (fun h42 => ?_)
                      refine tr_stp (fun σw41 eσw41 => ?_)
                      refine tr_iinc C (i := 4) (d := 1) (lv' := [some (.ref (ad b)), some (.int a1), some (.ref (ad b2)), some (.int y3_115), some (.int (y4_115 + 1)), some (.int y5_115), some (.int ((rd σ115 (b + 3) (y3_115 - 1)) + (rd σ115 (b + 3) y3_115))), some (.int (rd σ115 (b + 3) y3_115))]) dX3_value_338 rfl (by decide) (by decide) rfl ?_
                      refine tr_goto C (tgt := 20) dX3_value_341 (by decide) ?_
                      refine tr_mask [true, true, true, true, true, false, false, false] rfl ?_
                      exact IH20 (σw41, y3_115, y4_115 + 1)
                    · refine tr_ite (fun q9 => ?_) (fun q9 => ?_)
                      · refine tr_tin C (k := (-12)) (tgt := 323) dX3_value_142 q9 (by decide) (by decide) rfl (by decide) ?_
                        refine tr_iload C (i := 6) dX3_value_323 rfl ?_
                        refine tr_ineg C dX3_value_325 ?_
                        refine tr_istore C (i := 6) (lv' := [some (.ref (ad b)), some (.int a1), some (.ref (ad b2)), some (.int y3_115), some (.int y4_115), some (.int y5_115), some (.int (-(rd σ115 (b + 3) (y3_115 - 1)))), some (.int (rd σ115 (b + 3) y3_115))]) dX3_value_326 (by decide) rfl ?_
                        refine tr_aload_n C (i := 0) dX3_value_328 rfl rfl ?_
                        refine tr_getR C (k := 2) (ci := 3) (tx_0 hb) rfl rfl inT3 rfl (by decide) w168 dX3_value_329 ?_
                        refine tr_iload_n C (i := 3) dX3_value_332 rfl rfl ?_
                        refine tr_iconst C (v := 1) dX3_value_333 (by decide) ?_
                        refine tr_isub C dX3_value_334 ?_
                        refine tr_iload C (i := 6) dX3_value_335 rfl ?_
                        refine tr_iast C (n := 161) (σ' := wr σ115 (b + 3) (y3_115 - 1) (-(rd σ115 (b + 3) (y3_115 - 1)))) (tx_3 hb) dX3_value_337 rfl (fun h40 => ?_)
                        refine tr_stp (fun σw39 eσw39 => ?_)
                        refine tr_iinc C (i := 4) (d := 1) (lv' := [some (.ref (ad b)), some (.int a1), some (.ref (ad b2)), some (.int y3_115), some (.int (y4_115 + 1)), some (.int y5_115), some (.int (-(rd σ115 (b + 3) (y3_115 - 1)))), some (.int (rd σ115 (b + 3) y3_115))]) dX3_value_338 rfl (by decide) (by decide) rfl ?_
                        refine tr_goto C (tgt := 20) dX3_value_341 (by decide) ?_
                        refine tr_mask [true, true, true, true, true, false, false, false] rfl ?_
                        exact IH20 (σw39, y3_115, y4_115 + 1)
                      · refine tr_ite (fun q10 => ?_) (fun q10 => ?_)
                        · refine tr_tin C (k := (-11)) (tgt := 323) dX3_value_142 q10 (by decide) (by decide) rfl (by decide) ?_
                          refine tr_iload C (i := 6) dX3_value_323 rfl ?_
                          refine tr_ineg C dX3_value_325 ?_
                          refine tr_istore C (i := 6) (lv' := [some (.ref (ad b)), some (.int a1), some (.ref (ad b2)), some (.int y3_115), some (.int y4_115), some (.int y5_115), some (.int (-(rd σ115 (b + 3) (y3_115 - 1)))), some (.int (rd σ115 (b + 3) y3_115))]) dX3_value_326 (by decide) rfl ?_
                          refine tr_aload_n C (i := 0) dX3_value_328 rfl rfl ?_
                          refine tr_getR C (k := 2) (ci := 3) (tx_0 hb) rfl rfl inT3 rfl (by decide) w168 dX3_value_329 ?_
                          refine tr_iload_n C (i := 3) dX3_value_332 rfl rfl ?_
                          refine tr_iconst C (v := 1) dX3_value_333 (by decide) ?_
                          refine tr_isub C dX3_value_334 ?_
                          refine tr_iload C (i := 6) dX3_value_335 rfl ?_
                          refine tr_iast C (n := 161) (σ' := wr σ115 (b + 3) (y3_115 - 1) (-(rd σ115 (b + 3) (y3_115 - 1)))) (tx_3 hb) dX3_value_337 rfl (fun h38 => ?_)
                          refine tr_stp (fun σw37 eσw37 => ?_)
                          refine tr_iinc C (i := 4) (d := 1) (lv' := [some (.ref (ad b)), some (.int a1), some (.ref (ad b2)), some (.int y3_115), some (.int (y4_115 + 1)), some (.int y5_115), some (.int (-(rd σ115 (b + 3) (y3_115 - 1)))), some (.int (rd σ115 (b + 3) y3_115))]) dX3_value_338 rfl (by decide) (by decide) rfl ?_
                          refine tr_goto C (tgt := 20) dX3_value_341 (by decide) ?_
                          refine tr_mask [true, true, true, true, true, false, false, false] rfl ?_
                          exact IH20 (σw37, y3_115, y4_115 + 1)
                        · refine tr_ite (fun q11 => ?_) (fun q11 => ?_)
                          · refine tr_tin C (k := (-10)) (tgt := 323) dX3_value_142 q11 (by decide) (by decide) rfl (by decide) ?_
                            refine tr_iload C (i := 6) dX3_value_323 rfl ?_
                            refine tr_ineg C dX3_value_325 ?_
                            refine tr_istore C (i := 6) (lv' := [some (.ref (ad b)), some (.int a1), some (.ref (ad b2)), some (.int y3_115), some (.int y4_115), some (.int y5_115), some (.int (-(rd σ115 (b + 3) (y3_115 - 1)))), some (.int (rd σ115 (b + 3) y3_115))]) dX3_value_326 (by decide) rfl ?_
                            refine tr_aload_n C (i := 0) dX3_value_328 rfl rfl ?_
                            refine tr_getR C (k := 2) (ci := 3) (tx_0 hb) rfl rfl inT3 rfl (by decide) w168 dX3_value_329 ?_
                            refine tr_iload_n C (i := 3) dX3_value_332 rfl rfl ?_
                            refine tr_iconst C (v := 1) dX3_value_333 (by decide) ?_
                            refine tr_isub C dX3_value_334 ?_
                            refine tr_iload C (i := 6) dX3_value_335 rfl ?_
                            refine tr_iast C (n := 161) (σ' := wr σ115 (b + 3) (y3_115 - 1) (-(rd σ115 (b + 3) (y3_115 - 1)))) (tx_3 hb) dX3_value_337 rfl (fun h36 => ?_)
                            refine tr_stp (fun σw35 eσw35 => ?_)
                            refine tr_iinc C (i := 4) (d := 1) (lv' := [some (.ref (ad b)), some (.int a1), some (.ref (ad b2)), some (.int y3_115), some (.int (y4_115 + 1)), some (.int y5_115), some (.int (-(rd σ115 (b + 3) (y3_115 - 1)))), some (.int (rd σ115 (b + 3) y3_115))]) dX3_value_338 rfl (by decide) (by decide) rfl ?_
                            refine tr_goto C (tgt := 20) dX3_value_341 (by decide) ?_
                            refine tr_mask [true, true, true, true, true, false, false, false] rfl ?_
                            exact IH20 (σw35, y3_115, y4_115 + 1)
                          · refine tr_ite (fun q12 => ?_) (fun q12 => ?_)
                            · refine tr_tin C (k := (-9)) (tgt := 323) dX3_value_142 q12 (by decide) (by decide) rfl (by decide) ?_
                              refine tr_iload C (i := 6) dX3_value_323 rfl ?_
                              refine tr_ineg C dX3_value_325 ?_
                              refine tr_istore C (i := 6) (lv' := [some (.ref (ad b)), some (.int a1), some (.ref (ad b2)), some (.int y3_115), some (.int y4_115), some (.int y5_115), some (.int (-(rd σ115 (b + 3) (y3_115 - 1)))), some (.int (rd σ115 (b + 3) y3_115))]) dX3_value_326 (by decide) rfl ?_
                              refine tr_aload_n C (i := 0) dX3_value_328 rfl rfl ?_
                              refine tr_getR C (k := 2) (ci := 3) (tx_0 hb) rfl rfl inT3 rfl (by decide) w168 dX3_value_329 ?_
                              refine tr_iload_n C (i := 3) dX3_value_332 rfl rfl ?_
                              refine tr_iconst C (v := 1) dX3_value_333 (by decide) ?_
                              refine tr_isub C dX3_value_334 ?_
                              refine tr_iload C (i := 6) dX3_value_335 rfl ?_
                              refine tr_iast C (n := 161) (σ' := wr σ115 (b + 3) (y3_115 - 1) (-(rd σ115 (b + 3) (y3_115 - 1)))) (tx_3 hb) dX3_value_337 rfl (fun h34 => ?_)
                              refine tr_stp (fun σw33 eσw33 => ?_)
                              refine tr_iinc C (i := 4) (d := 1) (lv' := [some (.ref (ad b)), some (.int a1), some (.ref (ad b2)), some (.int y3_115), some (.int (y4_115 + 1)), some (.int y5_115), some (.int (-(rd σ115 (b + 3) (y3_115 - 1)))), some (.int (rd σ115 (b + 3) y3_115))]) dX3_value_338 rfl (by decide) (by decide) rfl ?_
                              refine tr_goto C (tgt := 20) dX3_value_341 (by decide) ?_
                              refine tr_mask [true, true, true, true, true, false, false, false] rfl ?_
                              exact IH20 (σw33, y3_115, y4_115 + 1)
                            · refine tr_ite (fun q13 => ?_) (fun q13 => ?_)
                              · refine tr_tin C (k := (-8)) (tgt := 244) dX3_value_142 q13 (by decide) (by decide) rfl (by decide) ?_
                                refine tr_iload C (i := 6) dX3_value_244 rfl ?_
                                refine tr_if_ne C (tgt := 253) dX3_value_246 (by decide) (fun q32 => ?_) (fun q32 => ?_)
                                · refine tr_iconst C (v := 1) dX3_value_249 (by decide) ?_
                                  refine tr_goto C (tgt := 254) dX3_value_250 (by decide) ?_
                                  refine tr_istore C (i := 6) (lv' := [some (.ref (ad b)), some (.int a1), some (.ref (ad b2)), some (.int y3_115), some (.int y4_115), some (.int y5_115), some (.int 1), some (.int (rd σ115 (b + 3) y3_115))]) dX3_value_254 (by decide) rfl ?_
                                  refine tr_goto C (tgt := 328) dX3_value_256 (by decide) ?_
                                  refine tr_aload_n C (i := 0) dX3_value_328 rfl rfl ?_
                                  refine tr_getR C (k := 2) (ci := 3) (tx_0 hb) rfl rfl inT3 rfl (by decide) w168 dX3_value_329 ?_
                                  refine tr_iload_n C (i := 3) dX3_value_332 rfl rfl ?_
                                  refine tr_iconst C (v := 1) dX3_value_333 (by decide) ?_
                                  refine tr_isub C dX3_value_334 ?_
                                  refine tr_iload C (i := 6) dX3_value_335 rfl ?_
                                  refine tr_iast C (n := 161) (σ' := wr σ115 (b + 3) (y3_115 - 1) 1) (tx_3 hb) dX3_value_337 rfl (fun h31 => ?_)
                                  refine tr_stp (fun σw30 eσw30 => ?_)
                                  refine tr_iinc C (i := 4) (d := 1) (lv' := [some (.ref (ad b)), some (.int a1), some (.ref (ad b2)), some (.int y3_115), some (.int (y4_115 + 1)), some (.int y5_115), some (.int 1), some (.int (rd σ115 (b + 3) y3_115))]) dX3_value_338 rfl (by decide) (by decide) rfl ?_
                                  refine tr_goto C (tgt := 20) dX3_value_341 (by decide) ?_
                                  refine tr_mask [true, true, true, true, true, false, false, false] rfl ?_
                                  exact IH20 (σw30, y3_115, y4_115 + 1)
                                · refine tr_iconst C (v := 0) dX3_value_253 (by decide) ?_
                                  refine tr_istore C (i := 6) (lv' := [some (.ref (ad b)), some (.int a1), some (.ref (ad b2)), some (.int y3_115), some (.int y4_115), some (.int y5_115), some (.int 0), some (.int (rd σ115 (b + 3) y3_115))]) dX3_value_254 (by decide) rfl ?_
                                  refine tr_goto C (tgt := 328) dX3_value_256 (by decide) ?_
                                  refine tr_aload_n C (i := 0) dX3_value_328 rfl rfl ?_
                                  refine tr_getR C (k := 2) (ci := 3) (tx_0 hb) rfl rfl inT3 rfl (by decide) w168 dX3_value_329 ?_
                                  refine tr_iload_n C (i := 3) dX3_value_332 rfl rfl ?_
                                  refine tr_iconst C (v := 1) dX3_value_333 (by decide) ?_
                                  refine tr_isub C dX3_value_334 ?_
                                  refine tr_iload C (i := 6) dX3_value_335 rfl ?_
                                  refine tr_iast C (n := 161) (σ' := wr σ115 (b + 3) (y3_115 - 1) 0) (tx_3 hb) dX3_value_337 rfl (fun h29 => ?_)
                                  refine tr_stp (fun σw28 eσw28 => ?_)
                                  refine tr_iinc C (i := 4) (d := 1) (lv' := [some (.ref (ad b)), some (.int a1), some (.ref (ad b2)), some (.int y3_115), some (.int (y4_115 + 1)), some (.int y5_115), some (.int 0), some (.int (rd σ115 (b + 3) y3_115))]) dX3_value_338 rfl (by decide) (by decide) rfl ?_
                                  refine tr_goto C (tgt := 20) dX3_value_341 (by decide) ?_
                                  refine tr_mask [true, true, true, true, true, false, false, false] rfl ?_
                                  exact IH20 (σw28, y3_115, y4_115 + 1)
                              · refine tr_ite (fun q14 => ?_) (fun q14 => ?_)
                                · refine tr_tin C (k := (-7)) (tgt := 224) dX3_value_142 q14 (by decide) (by decide) rfl (by decide) ?_
                                  refine tr_iload C (i := 6) dX3_value_224 rfl ?_
                                  have B238 : ∀ (σ238 : Mem) (y3_238 : Int32) (y4_238 : Int32), Tr p l e { frames := 0, cells := 0, slots := 0, locals := 0 } s m args below meth c g ad (shC g) A 8 (QI g ad (shC g) A below args s) (fX3_value_b238 b a1 b2 ih20 σ238 y3_238 y4_238) σ238 238 [some (.ref (ad b)), some (.int a1), some (.ref (ad b2)), some (.int y3_238), some (.int y4_238), none, none, none] [] := by
                                    intro σ238 y3_238 y4_238
                                    refine tr_iconst C (v := 0) dX3_value_238 (by decide) ?_
                                    refine tr_istore C (i := 6) (lv' := [some (.ref (ad b)), some (.int a1), some (.ref (ad b2)), some (.int y3_238), some (.int y4_238), none, some (.int 0), none]) dX3_value_239 (by decide) rfl ?_
                                    refine tr_goto C (tgt := 328) dX3_value_241 (by decide) ?_
                                    refine tr_aload_n C (i := 0) dX3_value_328 rfl rfl ?_
                                    refine tr_getR C (k := 2) (ci := 3) (tx_0 hb) rfl rfl inT3 rfl (by decide) w168 dX3_value_329 ?_
                                    refine tr_iload_n C (i := 3) dX3_value_332 rfl rfl ?_
                                    refine tr_iconst C (v := 1) dX3_value_333 (by decide) ?_
                                    refine tr_isub C dX3_value_334 ?_
                                    refine tr_iload C (i := 6) dX3_value_335 rfl ?_
                                    refine tr_iast C (n := 161) (σ' := wr σ238 (b + 3) (y3_238 - 1) 0) (tx_3 hb) dX3_value_337 rfl (fun h23 => ?_)
                                    refine tr_stp (fun σw22 eσw22 => ?_)
                                    refine tr_iinc C (i := 4) (d := 1) (lv' := [some (.ref (ad b)), some (.int a1), some (.ref (ad b2)), some (.int y3_238), some (.int (y4_238 + 1)), none, some (.int 0), none]) dX3_value_338 rfl (by decide) (by decide) rfl ?_
                                    refine tr_goto C (tgt := 20) dX3_value_341 (by decide) ?_
                                    refine tr_mask [true, true, true, true, true, false, false, false] rfl ?_
                                    exact IH20 (σw22, y3_238, y4_238 + 1)
                                  refine tr_if_eq C (tgt := 238) dX3_value_226 (by decide) (fun q27 => ?_) (fun q27 => ?_)
                                  · refine tr_mask [true, true, true, true, true, false, false, false] rfl ?_
                                    exact B238 σ115 y3_115 y4_115
                                  · refine tr_iload C (i := 7) dX3_value_229 rfl ?_
                                    refine tr_if_eq C (tgt := 238) dX3_value_231 (by decide) (fun q26 => ?_) (fun q26 => ?_)
                                    · refine tr_mask [true, true, true, true, true, false, false, false] rfl ?_
                                      exact B238 σ115 y3_115 y4_115
                                    · refine tr_iconst C (v := 1) dX3_value_234 (by decide) ?_
                                      refine tr_goto C (tgt := 239) dX3_value_235 (by decide) ?_
                                      refine tr_istore C (i := 6) (lv' := [some (.ref (ad b)), some (.int a1), some (.ref (ad b2)), some (.int y3_115), some (.int y4_115), some (.int y5_115), some (.int 1), some (.int (rd σ115 (b + 3) y3_115))]) dX3_value_239 (by decide) rfl ?_
                                      refine tr_goto C (tgt := 328) dX3_value_241 (by decide) ?_
                                      refine tr_aload_n C (i := 0) dX3_value_328 rfl rfl ?_
                                      refine tr_getR C (k := 2) (ci := 3) (tx_0 hb) rfl rfl inT3 rfl (by decide) w168 dX3_value_329 ?_
                                      refine tr_iload_n C (i := 3) dX3_value_332 rfl rfl ?_
                                      refine tr_iconst C (v := 1) dX3_value_333 (by decide) ?_
                                      refine tr_isub C dX3_value_334 ?_
                                      refine tr_iload C (i := 6) dX3_value_335 rfl ?_
                                      refine tr_iast C (n := 161) (σ' := wr σ115 (b + 3) (y3_115 - 1) 1) (tx_3 hb) dX3_value_337 rfl (fun h25 => ?_)
                                      refine tr_stp (fun σw24 eσw24 => ?_)
                                      refine tr_iinc C (i := 4) (d := 1) (lv' := [some (.ref (ad b)), some (.int a1), some (.ref (ad b2)), some (.int y3_115), some (.int (y4_115 + 1)), some (.int y5_115), some (.int 1), some (.int (rd σ115 (b + 3) y3_115))]) dX3_value_338 rfl (by decide) (by decide) rfl ?_
                                      refine tr_goto C (tgt := 20) dX3_value_341 (by decide) ?_
                                      refine tr_mask [true, true, true, true, true, false, false, false] rfl ?_
                                      exact IH20 (σw24, y3_115, y4_115 + 1)
                                · refine tr_ite (fun q15 => ?_) (fun q15 => ?_)
                                  · refine tr_tin C (k := (-6)) (tgt := 204) dX3_value_142 q15 (by decide) (by decide) rfl (by decide) ?_
                                    refine tr_iload C (i := 6) dX3_value_204 rfl ?_
                                    have B214 : ∀ (σ214 : Mem) (y3_214 : Int32) (y4_214 : Int32), Tr p l e { frames := 0, cells := 0, slots := 0, locals := 0 } s m args below meth c g ad (shC g) A 8 (QI g ad (shC g) A below args s) (fX3_value_b214 b a1 b2 ih20 σ214 y3_214 y4_214) σ214 214 [some (.ref (ad b)), some (.int a1), some (.ref (ad b2)), some (.int y3_214), some (.int y4_214), none, none, none] [] := by
                                      intro σ214 y3_214 y4_214
                                      refine tr_iconst C (v := 1) dX3_value_214 (by decide) ?_
                                      refine tr_goto C (tgt := 219) dX3_value_215 (by decide) ?_
                                      refine tr_istore C (i := 6) (lv' := [some (.ref (ad b)), some (.int a1), some (.ref (ad b2)), some (.int y3_214), some (.int y4_214), none, some (.int 1), none]) dX3_value_219 (by decide) rfl ?_
                                      refine tr_goto C (tgt := 328) dX3_value_221 (by decide) ?_
                                      refine tr_aload_n C (i := 0) dX3_value_328 rfl rfl ?_
                                      refine tr_getR C (k := 2) (ci := 3) (tx_0 hb) rfl rfl inT3 rfl (by decide) w168 dX3_value_329 ?_
                                      refine tr_iload_n C (i := 3) dX3_value_332 rfl rfl ?_
                                      refine tr_iconst C (v := 1) dX3_value_333 (by decide) ?_
                                      refine tr_isub C dX3_value_334 ?_
                                      refine tr_iload C (i := 6) dX3_value_335 rfl ?_
                                      refine tr_iast C (n := 161) (σ' := wr σ214 (b + 3) (y3_214 - 1) 1) (tx_3 hb) dX3_value_337 rfl (fun h17 => ?_)
                                      refine tr_stp (fun σw16 eσw16 => ?_)
                                      refine tr_iinc C (i := 4) (d := 1) (lv' := [some (.ref (ad b)), some (.int a1), some (.ref (ad b2)), some (.int y3_214), some (.int (y4_214 + 1)), none, some (.int 1), none]) dX3_value_338 rfl (by decide) (by decide) rfl ?_
                                      refine tr_goto C (tgt := 20) dX3_value_341 (by decide) ?_
                                      refine tr_mask [true, true, true, true, true, false, false, false] rfl ?_
                                      exact IH20 (σw16, y3_214, y4_214 + 1)
                                    refine tr_if_ne C (tgt := 214) dX3_value_206 (by decide) (fun q21 => ?_) (fun q21 => ?_)
                                    · refine tr_iload C (i := 7) dX3_value_209 rfl ?_
                                      refine tr_if_eq C (tgt := 218) dX3_value_211 (by decide) (fun q20 => ?_) (fun q20 => ?_)
                                      · refine tr_iconst C (v := 0) dX3_value_218 (by decide) ?_
                                        refine tr_istore C (i := 6) (lv' := [some (.ref (ad b)), some (.int a1), some (.ref (ad b2)), some (.int y3_115), some (.int y4_115), some (.int y5_115), some (.int 0), some (.int (rd σ115 (b + 3) y3_115))]) dX3_value_219 (by decide) rfl ?_
                                        refine tr_goto C (tgt := 328) dX3_value_221 (by decide) ?_
                                        refine tr_aload_n C (i := 0) dX3_value_328 rfl rfl ?_
                                        refine tr_getR C (k := 2) (ci := 3) (tx_0 hb) rfl rfl inT3 rfl (by decide) w168 dX3_value_329 ?_
                                        refine tr_iload_n C (i := 3) dX3_value_332 rfl rfl ?_
                                        refine tr_iconst C (v := 1) dX3_value_333 (by decide) ?_
                                        refine tr_isub C dX3_value_334 ?_
                                        refine tr_iload C (i := 6) dX3_value_335 rfl ?_
                                        refine tr_iast C (n := 161) (σ' := wr σ115 (b + 3) (y3_115 - 1) 0) (tx_3 hb) dX3_value_337 rfl (fun h19 => ?_)
                                        refine tr_stp (fun σw18 eσw18 => ?_)
                                        refine tr_iinc C (i := 4) (d := 1) (lv' := [some (.ref (ad b)), some (.int a1), some (.ref (ad b2)), some (.int y3_115), some (.int (y4_115 + 1)), some (.int y5_115), some (.int 0), some (.int (rd σ115 (b + 3) y3_115))]) dX3_value_338 rfl (by decide) (by decide) rfl ?_
                                        refine tr_goto C (tgt := 20) dX3_value_341 (by decide) ?_
                                        refine tr_mask [true, true, true, true, true, false, false, false] rfl ?_
                                        exact IH20 (σw18, y3_115, y4_115 + 1)
                                      · refine tr_mask [true, true, true, true, true, false, false, false] rfl ?_
                                        exact B214 σ115 y3_115 y4_115
                                    · refine tr_mask [true, true, true, true, true, false, false, false] rfl ?_
                                      exact B214 σ115 y3_115 y4_115
                                  · refine tr_tout C (tgt := 323) dX3_value_142 (by have eq4 := neI (-17) q4 (by decide); have eq5 := neI (-16) q5 (by decide); have eq6 := neI (-15) q6 (by decide); have eq7 := neI (-14) q7 (by decide); have eq8 := neI (-13) q8 (by decide); have eq9 := neI (-12) q9 (by decide); have eq10 := neI (-11) q10 (by decide); have eq11 := neI (-10) q11 (by decide); have eq12 := neI (-9) q12 (by decide); have eq13 := neI (-8) q13 (by decide); have eq14 := neI (-7) q14 (by decide); have eq15 := neI (-6) q15 (by decide); omega) (by decide) ?_
                                    refine tr_iload C (i := 6) dX3_value_323 rfl ?_
                                    refine tr_ineg C dX3_value_325 ?_
                                    refine tr_istore C (i := 6) (lv' := [some (.ref (ad b)), some (.int a1), some (.ref (ad b2)), some (.int y3_115), some (.int y4_115), some (.int y5_115), some (.int (-(rd σ115 (b + 3) (y3_115 - 1)))), some (.int (rd σ115 (b + 3) y3_115))]) dX3_value_326 (by decide) rfl ?_
                                    refine tr_aload_n C (i := 0) dX3_value_328 rfl rfl ?_
                                    refine tr_getR C (k := 2) (ci := 3) (tx_0 hb) rfl rfl inT3 rfl (by decide) w168 dX3_value_329 ?_
                                    refine tr_iload_n C (i := 3) dX3_value_332 rfl rfl ?_
                                    refine tr_iconst C (v := 1) dX3_value_333 (by decide) ?_
                                    refine tr_isub C dX3_value_334 ?_
                                    refine tr_iload C (i := 6) dX3_value_335 rfl ?_
                                    refine tr_iast C (n := 161) (σ' := wr σ115 (b + 3) (y3_115 - 1) (-(rd σ115 (b + 3) (y3_115 - 1)))) (tx_3 hb) dX3_value_337 rfl (fun h3 => ?_)
                                    refine tr_stp (fun σw2 eσw2 => ?_)
                                    refine tr_iinc C (i := 4) (d := 1) (lv' := [some (.ref (ad b)), some (.int a1), some (.ref (ad b2)), some (.int y3_115), some (.int (y4_115 + 1)), some (.int y5_115), some (.int (-(rd σ115 (b + 3) (y3_115 - 1)))), some (.int (rd σ115 (b + 3) y3_115))]) dX3_value_338 rfl (by decide) (by decide) rfl ?_
                                    refine tr_goto C (tgt := 20) dX3_value_341 (by decide) ?_
                                    refine tr_mask [true, true, true, true, true, false, false, false] rfl ?_
                                    exact IH20 (σw2, y3_115, y4_115 + 1)
          · refine tr_iconst C (v := 0) dX3_value_120 (by decide) ?_
            exact tr_iret C hr hlk dX3_value_121
        refine tr_icmp_eq C (tgt := 115) dX3_value_102 (by decide) (fun q77 => ?_) (fun q77 => ?_)
        · exact B115 σ20 y3_20 y4_20 (rd σ20 (b + 1) y4_20)
        · refine tr_iload C (i := 5) dX3_value_105 rfl ?_
          refine tr_bipush C (v := -18) dX3_value_107 (by decide) ?_
          refine tr_icmp_eq C (tgt := 115) dX3_value_109 (by decide) (fun q76 => ?_) (fun q76 => ?_)
          · exact B115 σ20 y3_20 y4_20 (rd σ20 (b + 1) y4_20)
          · refine tr_iinc C (i := 3) (d := (-1)) (lv' := [some (.ref (ad b)), some (.int a1), some (.ref (ad b2)), some (.int (y3_20 + (-1))), some (.int y4_20), some (.int (rd σ20 (b + 1) y4_20)), none, none]) dX3_value_112 rfl (by decide) (by decide) rfl ?_
            exact B115 σ20 (y3_20 + (-1)) y4_20 (rd σ20 (b + 1) y4_20)
      · refine tr_iload_n C (i := 3) dX3_value_45 rfl rfl ?_
        refine tr_sipush C (v := 160) dX3_value_46 (by decide) ?_
        refine tr_icmp_ge C (tgt := 63) dX3_value_49 (by decide) (fun q85 => ?_) (fun q85 => ?_)
        · refine tr_iconst C (v := 0) dX3_value_63 (by decide) ?_
          exact tr_iret C hr hlk dX3_value_64
        · refine tr_iload C (i := 5) dX3_value_52 rfl ?_
          refine tr_sipush C (v := 10000) dX3_value_54 (by decide) ?_
          refine tr_isub C dX3_value_57 ?_
          refine tr_bipush C (v := 6) dX3_value_58 (by decide) ?_
          refine tr_icmp_lt C (tgt := 65) dX3_value_60 (by decide) (fun q84 => ?_) (fun q84 => ?_)
          · refine tr_aload_n C (i := 0) dX3_value_65 rfl rfl ?_
            refine tr_getR C (k := 2) (ci := 3) (tx_0 hb) rfl rfl inT3 rfl (by decide) w168 dX3_value_66 ?_
            refine tr_iload_n C (i := 3) dX3_value_69 rfl rfl ?_
            refine tr_iload C (i := 5) dX3_value_70 rfl ?_
            refine tr_sipush C (v := 10000) dX3_value_72 (by decide) ?_
            refine tr_icmp_ge C (tgt := 83) dX3_value_75 (by decide) (fun q83 => ?_) (fun q83 => ?_)
            · refine tr_aload_n C (i := 2) dX3_value_83 rfl rfl ?_
              refine tr_iload C (i := 5) dX3_value_84 rfl ?_
              refine tr_sipush C (v := 10000) dX3_value_86 (by decide) ?_
              refine tr_isub C dX3_value_89 ?_
              refine tr_iald C (n := 6) (fa_0 hb2) dX3_value_90 (fun h80 => ?_)
              refine tr_iast C (n := 161) (σ' := wr σ20 (b + 3) y3_20 (rd σ20 b2 ((rd σ20 (b + 1) y4_20) - 10000))) (tx_3 hb) dX3_value_91 rfl (fun h79 => ?_)
              refine tr_stp (fun σw78 eσw78 => ?_)
              refine tr_iinc C (i := 3) (d := 1) (lv' := [some (.ref (ad b)), some (.int a1), some (.ref (ad b2)), some (.int (y3_20 + 1)), some (.int y4_20), some (.int (rd σ20 (b + 1) y4_20)), none, none]) dX3_value_92 rfl (by decide) (by decide) rfl ?_
              refine tr_goto C (tgt := 338) dX3_value_95 (by decide) ?_
              refine tr_iinc C (i := 4) (d := 1) (lv' := [some (.ref (ad b)), some (.int a1), some (.ref (ad b2)), some (.int (y3_20 + 1)), some (.int (y4_20 + 1)), some (.int (rd σ20 (b + 1) y4_20)), none, none]) dX3_value_338 rfl (by decide) (by decide) rfl ?_
              refine tr_goto C (tgt := 20) dX3_value_341 (by decide) ?_
              refine tr_mask [true, true, true, true, true, false, false, false] rfl ?_
              exact IH20 (σw78, y3_20 + 1, y4_20 + 1)
            · refine tr_iload C (i := 5) dX3_value_78 rfl ?_
              refine tr_goto C (tgt := 91) dX3_value_80 (by decide) ?_
              refine tr_iast C (n := 161) (σ' := wr σ20 (b + 3) y3_20 (rd σ20 (b + 1) y4_20)) (tx_3 hb) dX3_value_91 rfl (fun h82 => ?_)
              refine tr_stp (fun σw81 eσw81 => ?_)
              refine tr_iinc C (i := 3) (d := 1) (lv' := [some (.ref (ad b)), some (.int a1), some (.ref (ad b2)), some (.int (y3_20 + 1)), some (.int y4_20), some (.int (rd σ20 (b + 1) y4_20)), none, none]) dX3_value_92 rfl (by decide) (by decide) rfl ?_
              refine tr_goto C (tgt := 338) dX3_value_95 (by decide) ?_
              refine tr_iinc C (i := 4) (d := 1) (lv' := [some (.ref (ad b)), some (.int a1), some (.ref (ad b2)), some (.int (y3_20 + 1)), some (.int (y4_20 + 1)), some (.int (rd σ20 (b + 1) y4_20)), none, none]) dX3_value_338 rfl (by decide) (by decide) rfl ?_
              refine tr_goto C (tgt := 20) dX3_value_341 (by decide) ?_
              refine tr_mask [true, true, true, true, true, false, false, false] rfl ?_
              exact IH20 (σw81, y3_20 + 1, y4_20 + 1)
          · refine tr_iconst C (v := 0) dX3_value_63 (by decide) ?_
            exact tr_iret C hr hlk dX3_value_64
  · refine tr_aload_n C (i := 0) dX3_value_10 rfl rfl ?_
    refine tr_getR C (k := 1) (ci := 3) (tx_0 hb) rfl rfl inT3 rfl (by decide) w167 dX3_value_11 ?_
    refine tr_iload_n C (i := 1) dX3_value_14 rfl rfl ?_
    refine tr_iconst C (v := 1) dX3_value_15 (by decide) ?_
    refine tr_isub C dX3_value_16 ?_
    refine tr_iald C (n := 3) (tx_2 hb) dX3_value_17 (fun h74 => ?_)
    refine tr_istore C (i := 4) (lv' := [some (.ref (ad b)), some (.int a1), some (.ref (ad b2)), some (.int 0), some (.int (rd σ (b + 2) (a1 - 1))), none, none, none]) dX3_value_18 (by decide) rfl ?_
    refine tr_loop (b := fX3_value_L20 b a1 b2) (sg := fun v => v.1) (lw := fun v => [some (.ref (ad b)), some (.int a1), some (.ref (ad b2)), some (.int v.2.1), some (.int v.2.2), none, none, none]) (sw := fun v => []) (fun ih20 IH20 v => ?_) 1000 (σ, 0, rd σ (b + 2) (a1 - 1))
    obtain ⟨σ20, y3_20, y4_20⟩ := v
    refine tr_st (σ' := σ20) (lv' := [some (.ref (ad b)), some (.int a1), some (.ref (ad b2)), some (.int y3_20), some (.int y4_20), none, none, none]) (st' := []) rfl rfl rfl ?_
    refine tr_iload C (i := 4) dX3_value_20 rfl ?_
    refine tr_aload_n C (i := 0) dX3_value_22 rfl rfl ?_
    refine tr_getR C (k := 1) (ci := 3) (tx_0 hb) rfl rfl inT3 rfl (by decide) w167 dX3_value_23 ?_
    refine tr_iload_n C (i := 1) dX3_value_26 rfl rfl ?_
    refine tr_iald C (n := 3) (tx_2 hb) dX3_value_27 (fun h73 => ?_)
    refine tr_icmp_ge C (tgt := 344) dX3_value_28 (by decide) (fun q72 => ?_) (fun q72 => ?_)
    · refine tr_aload_n C (i := 0) dX3_value_344 rfl rfl ?_
      refine tr_getR C (k := 2) (ci := 3) (tx_0 hb) rfl rfl inT3 rfl (by decide) w168 dX3_value_345 ?_
      refine tr_iconst C (v := 0) dX3_value_348 (by decide) ?_
      refine tr_iald C (n := 161) (tx_3 hb) dX3_value_349 (fun h1 => ?_)
      exact tr_iret C hr hlk dX3_value_350
    · refine tr_aload_n C (i := 0) dX3_value_31 rfl rfl ?_
      refine tr_getR C (k := 0) (ci := 3) (tx_0 hb) rfl rfl inT3 rfl (by decide) w166 dX3_value_32 ?_
      refine tr_iload C (i := 4) dX3_value_35 rfl ?_
      refine tr_iald C (n := 160) (tx_1 hb) dX3_value_37 (fun h71 => ?_)
      refine tr_istore C (i := 5) (lv' := [some (.ref (ad b)), some (.int a1), some (.ref (ad b2)), some (.int y3_20), some (.int y4_20), some (.int (rd σ20 (b + 1) y4_20)), none, none]) dX3_value_38 (by decide) rfl ?_
      refine tr_iload C (i := 5) dX3_value_40 rfl ?_
      refine tr_if_lt C (tgt := 98) dX3_value_42 (by decide) (fun q70 => ?_) (fun q70 => ?_)
      · refine tr_iload C (i := 5) dX3_value_98 rfl ?_
        refine tr_bipush C (v := -8) dX3_value_100 (by decide) ?_
        have B115 : ∀ (σ115 : Mem) (y3_115 : Int32) (y4_115 : Int32) (y5_115 : Int32), Tr p l e { frames := 0, cells := 0, slots := 0, locals := 0 } s m args below meth c g ad (shC g) A 8 (QI g ad (shC g) A below args s) (fX3_value_b115 b a1 b2 ih20 σ115 y3_115 y4_115 y5_115) σ115 115 [some (.ref (ad b)), some (.int a1), some (.ref (ad b2)), some (.int y3_115), some (.int y4_115), some (.int y5_115), none, none] [] := by
          intro σ115 y3_115 y4_115 y5_115
          refine tr_iload_n C (i := 3) dX3_value_115 rfl rfl ?_
          refine tr_iconst C (v := 1) dX3_value_116 (by decide) ?_
          refine tr_icmp_ge C (tgt := 122) dX3_value_117 (by decide) (fun q59 => ?_) (fun q59 => ?_)
          · refine tr_aload_n C (i := 0) dX3_value_122 rfl rfl ?_
            refine tr_getR C (k := 2) (ci := 3) (tx_0 hb) rfl rfl inT3 rfl (by decide) w168 dX3_value_123 ?_
            refine tr_iload_n C (i := 3) dX3_value_126 rfl rfl ?_
            refine tr_iconst C (v := 1) dX3_value_127 (by decide) ?_
            refine tr_isub C dX3_value_128 ?_
            refine tr_iald C (n := 161) (tx_3 hb) dX3_value_129 (fun h58 => ?_)
            refine tr_istore C (i := 6) (lv' := [some (.ref (ad b)), some (.int a1), some (.ref (ad b2)), some (.int y3_115), some (.int y4_115), some (.int y5_115), some (.int (rd σ115 (b + 3) (y3_115 - 1))), none]) dX3_value_130 (by decide) rfl ?_
            refine tr_aload_n C (i := 0) dX3_value_132 rfl rfl ?_
            refine tr_getR C (k := 2) (ci := 3) (tx_0 hb) rfl rfl inT3 rfl (by decide) w168 dX3_value_133 ?_
            refine tr_iload_n C (i := 3) dX3_value_136 rfl rfl ?_
            refine tr_iald C (n := 161) (tx_3 hb) dX3_value_137 (fun h57 => ?_)
            refine tr_istore C (i := 7) (lv' := [some (.ref (ad b)), some (.int a1), some (.ref (ad b2)), some (.int y3_115), some (.int y4_115), some (.int y5_115), some (.int (rd σ115 (b + 3) (y3_115 - 1))), some (.int (rd σ115 (b + 3) y3_115))]) dX3_value_138 (by decide) rfl ?_
            refine tr_iload C (i := 5) dX3_value_140 rfl ?_
            refine tr_ite (fun q4 => ?_) (fun q4 => ?_)
            · refine tr_tin C (k := (-17)) (tgt := 276) dX3_value_142 q4 (by decide) (by decide) rfl (by decide) ?_
              refine tr_iload C (i := 6) dX3_value_276 rfl ?_
              refine tr_iload C (i := 7) dX3_value_278 rfl ?_
              refine tr_icmp_ne C (tgt := 287) dX3_value_280 (by decide) (fun q56 => ?_) (fun q56 => ?_)
              · refine tr_iconst C (v := 1) dX3_value_283 (by decide) ?_
                refine tr_goto C (tgt := 288) dX3_value_284 (by decide) ?_
                refine tr_istore C (i := 6) (lv' := [some (.ref (ad b)), some (.int a1), some (.ref (ad b2)), some (.int y3_115), some (.int y4_115), some (.int y5_115), some (.int 1), some (.int (rd σ115 (b + 3) y3_115))]) dX3_value_288 (by decide) rfl ?_
                refine tr_goto C (tgt := 328) dX3_value_290 (by decide) ?_
                refine tr_aload_n C (i := 0) dX3_value_328 rfl rfl ?_
                refine tr_getR C (k := 2) (ci := 3) (tx_0 hb) rfl rfl inT3 rfl (by decide) w168 dX3_value_329 ?_
                refine tr_iload_n C (i := 3) dX3_value_332 rfl rfl ?_
                refine tr_iconst C (v := 1) dX3_value_333 (by decide) ?_
                refine tr_isub C dX3_value_334 ?_
                refine tr_iload C (i := 6) dX3_value_335 rfl ?_
                refine tr_iast C (n := 161) (σ' := wr σ115 (b + 3) (y3_115 - 1) 1) (tx_3 hb) dX3_value_337 rfl (fun h55 => ?_)
                refine tr_stp (fun σw54 eσw54 => ?_)
                refine tr_iinc C (i := 4) (d := 1) (lv' := [some (.ref (ad b)), some (.int a1), some (.ref (ad b2)), some (.int y3_115), some (.int (y4_115 + 1)), some (.int y5_115), some (.int 1), some (.int (rd σ115 (b + 3) y3_115))]) dX3_value_338 rfl (by decide) (by decide) rfl ?_
                refine tr_goto C (tgt := 20) dX3_value_341 (by decide) ?_
                refine tr_mask [true, true, true, true, true, false, false, false] rfl ?_
                exact IH20 (σw54, y3_115, y4_115 + 1)
              · refine tr_iconst C (v := 0) dX3_value_287 (by decide) ?_
                refine tr_istore C (i := 6) (lv' := [some (.ref (ad b)), some (.int a1), some (.ref (ad b2)), some (.int y3_115), some (.int y4_115), some (.int y5_115), some (.int 0), some (.int (rd σ115 (b + 3) y3_115))]) dX3_value_288 (by decide) rfl ?_
                refine tr_goto C (tgt := 328) dX3_value_290 (by decide) ?_
                refine tr_aload_n C (i := 0) dX3_value_328 rfl rfl ?_
                refine tr_getR C (k := 2) (ci := 3) (tx_0 hb) rfl rfl inT3 rfl (by decide) w168 dX3_value_329 ?_
                refine tr_iload_n C (i := 3) dX3_value_332 rfl rfl ?_
                refine tr_iconst C (v := 1) dX3_value_333 (by decide) ?_
                refine tr_isub C dX3_value_334 ?_
                refine tr_iload C (i := 6) dX3_value_335 rfl ?_
                refine tr_iast C (n := 161) (σ' := wr σ115 (b + 3) (y3_115 - 1) 0) (tx_3 hb) dX3_value_337 rfl (fun h53 => ?_)
                refine tr_stp (fun σw52 eσw52 => ?_)
                refine tr_iinc C (i := 4) (d := 1) (lv' := [some (.ref (ad b)), some (.int a1), some (.ref (ad b2)), some (.int y3_115), some (.int (y4_115 + 1)), some (.int y5_115), some (.int 0), some (.int (rd σ115 (b + 3) y3_115))]) dX3_value_338 rfl (by decide) (by decide) rfl ?_
                refine tr_goto C (tgt := 20) dX3_value_341 (by decide) ?_
                refine tr_mask [true, true, true, true, true, false, false, false] rfl ?_
                exact IH20 (σw52, y3_115, y4_115 + 1)
            · refine tr_ite (fun q5 => ?_) (fun q5 => ?_)
              · refine tr_tin C (k := (-16)) (tgt := 259) dX3_value_142 q5 (by decide) (by decide) rfl (by decide) ?_
                refine tr_iload C (i := 6) dX3_value_259 rfl ?_
                refine tr_iload C (i := 7) dX3_value_261 rfl ?_
                refine tr_icmp_ge C (tgt := 270) dX3_value_263 (by decide) (fun q51 => ?_) (fun q51 => ?_)
                · refine tr_iconst C (v := 0) dX3_value_270 (by decide) ?_
                  refine tr_istore C (i := 6) (lv' := [some (.ref (ad b)), some (.int a1), some (.ref (ad b2)), some (.int y3_115), some (.int y4_115), some (.int y5_115), some (.int 0), some (.int (rd σ115 (b + 3) y3_115))]) dX3_value_271 (by decide) rfl ?_
                  refine tr_goto C (tgt := 328) dX3_value_273 (by decide) ?_
                  refine tr_aload_n C (i := 0) dX3_value_328 rfl rfl ?_
                  refine tr_getR C (k := 2) (ci := 3) (tx_0 hb) rfl rfl inT3 rfl (by decide) w168 dX3_value_329 ?_
                  refine tr_iload_n C (i := 3) dX3_value_332 rfl rfl ?_
                  refine tr_iconst C (v := 1) dX3_value_333 (by decide) ?_
                  refine tr_isub C dX3_value_334 ?_
                  refine tr_iload C (i := 6) dX3_value_335 rfl ?_
                  refine tr_iast C (n := 161) (σ' := wr σ115 (b + 3) (y3_115 - 1) 0) (tx_3 hb) dX3_value_337 rfl (fun h48 => ?_)
                  refine tr_stp (fun σw47 eσw47 => ?_)
                  refine tr_iinc C (i := 4) (d := 1) (lv' := [some (.ref (ad b)), some (.int a1), some (.ref (ad b2)), some (.int y3_115), some (.int (y4_115 + 1)), some (.int y5_115), some (.int 0), some (.int (rd σ115 (b + 3) y3_115))]) dX3_value_338 rfl (by decide) (by decide) rfl ?_
                  refine tr_goto C (tgt := 20) dX3_value_341 (by decide) ?_
                  refine tr_mask [true, true, true, true, true, false, false, false] rfl ?_
                  exact IH20 (σw47, y3_115, y4_115 + 1)
                · refine tr_iconst C (v := 1) dX3_value_266 (by decide) ?_
                  refine tr_goto C (tgt := 271) dX3_value_267 (by decide) ?_
                  refine tr_istore C (i := 6) (lv' := [some (.ref (ad b)), some (.int a1), some (.ref (ad b2)), some (.int y3_115), some (.int y4_115), some (.int y5_115), some (.int 1), some (.int (rd σ115 (b + 3) y3_115))]) dX3_value_271 (by decide) rfl ?_
                  refine tr_goto C (tgt := 328) dX3_value_273 (by decide) ?_
                  refine tr_aload_n C (i := 0) dX3_value_328 rfl rfl ?_
                  refine tr_getR C (k := 2) (ci := 3) (tx_0 hb) rfl rfl inT3 rfl (by decide) w168 dX3_value_329 ?_
                  refine tr_iload_n C (i := 3) dX3_value_332 rfl rfl ?_
                  refine tr_iconst C (v := 1) dX3_value_333 (by decide) ?_
                  refine tr_isub C dX3_value_334 ?_
                  refine tr_iload C (i := 6) dX3_value_335 rfl ?_
                  refine tr_iast C (n := 161) (σ' := wr σ115 (b + 3) (y3_115 - 1) 1) (tx_3 hb) dX3_value_337 rfl (fun h50 => ?_)
                  refine tr_stp (fun σw49 eσw49 => ?_)
                  refine tr_iinc C (i := 4) (d := 1) (lv' := [some (.ref (ad b)), some (.int a1), some (.ref (ad b2)), some (.int y3_115), some (.int (y4_115 + 1)), some (.int y5_115), some (.int 1), some (.int (rd σ115 (b + 3) y3_115))]) dX3_value_338 rfl (by decide) (by decide) rfl ?_
                  refine tr_goto C (tgt := 20) dX3_value_341 (by decide) ?_
                  refine tr_mask [true, true, true, true, true, false, false, false] rfl ?_
                  exact IH20 (σw49, y3_115, y4_115 + 1)
              · refine tr_ite (fun q6 => ?_) (fun q6 => ?_)
                · refine tr_tin C (k := (-15)) (tgt := 313) dX3_value_142 q6 (by decide) (by decide) rfl (by decide) ?_
                  refine tr_iload C (i := 6) dX3_value_313 rfl ?_
                  refine tr_iload C (i := 7) dX3_value_315 rfl ?_
                  refine tr_imul C dX3_value_317 ?_
                  refine tr_istore C (i := 6) (lv' := [some (.ref (ad b)), some (.int a1), some (.ref (ad b2)), some (.int y3_115), some (.int y4_115), some (.int y5_115), some (.int ((rd σ115 (b + 3) (y3_115 - 1)) * (rd σ115 (b + 3) y3_115))), some (.int (rd σ115 (b + 3) y3_115))]) dX3_value_318 (by decide) rfl ?_
                  refine tr_goto C (tgt := 328) dX3_value_320 (by decide) ?_
                  refine tr_aload_n C (i := 0) dX3_value_328 rfl rfl ?_
                  refine tr_getR C (k := 2) (ci := 3) (tx_0 hb) rfl rfl inT3 rfl (by decide) w168 dX3_value_329 ?_
                  refine tr_iload_n C (i := 3) dX3_value_332 rfl rfl ?_
                  refine tr_iconst C (v := 1) dX3_value_333 (by decide) ?_
                  refine tr_isub C dX3_value_334 ?_
                  refine tr_iload C (i := 6) dX3_value_335 rfl ?_
                  refine tr_iast C (n := 161) (σ' := wr σ115 (b + 3) (y3_115 - 1) ((rd σ115 (b + 3) (y3_115 - 1)) * (rd σ115 (b + 3) y3_115))) (tx_3 hb) dX3_value_337 rfl (fun h46 => ?_)
                  refine tr_stp (fun σw45 eσw45 => ?_)
                  refine tr_iinc C (i := 4) (d := 1) (lv' := [some (.ref (ad b)), some (.int a1), some (.ref (ad b2)), some (.int y3_115), some (.int (y4_115 + 1)), some (.int y5_115), some (.int ((rd σ115 (b + 3) (y3_115 - 1)) * (rd σ115 (b + 3) y3_115))), some (.int (rd σ115 (b + 3) y3_115))]) dX3_value_338 rfl (by decide) (by decide) rfl ?_
                  refine tr_goto C (tgt := 20) dX3_value_341 (by decide) ?_
                  refine tr_mask [true, true, true, true, true, false, false, false] rfl ?_
                  exact IH20 (σw45, y3_115, y4_115 + 1)
                · refine tr_ite (fun q7 => ?_) (fun q7 => ?_)
                  · refine tr_tin C (k := (-14)) (tgt := 303) dX3_value_142 q7 (by decide) (by decide) rfl (by decide) ?_
                    refine tr_iload C (i := 6) dX3_value_303 rfl ?_
                    refine tr_iload C (i := 7) dX3_value_305 rfl ?_
                    refine tr_isub C dX3_value_307 ?_
                    refine tr_istore C (i := 6) (lv' := [some (.ref (ad b)), some (.int a1), some (.ref (ad b2)), some (.int y3_115), some (.int y4_115), some (.int y5_115), some (.int ((rd σ115 (b + 3) (y3_115 - 1)) - (rd σ115 (b + 3) y3_115))), some (.int (rd σ115 (b + 3) y3_115))]) dX3_value_308 (by decide) rfl ?_
                    refine tr_goto C (tgt := 328) dX3_value_310 (by decide) ?_
                    refine tr_aload_n C (i := 0) dX3_value_328 rfl rfl ?_
                    refine tr_getR C (k := 2) (ci := 3) (tx_0 hb) rfl rfl inT3 rfl (by decide) w168 dX3_value_329 ?_
                    refine tr_iload_n C (i := 3) dX3_value_332 rfl rfl ?_
                    refine tr_iconst C (v := 1) dX3_value_333 (by decide) ?_
                    refine tr_isub C dX3_value_334 ?_
                    refine tr_iload C (i := 6) dX3_value_335 rfl ?_
                    refine tr_iast C (n := 161) (σ' := wr σ115 (b + 3) (y3_115 - 1) ((rd σ115 (b + 3) (y3_115 - 1)) - (rd σ115 (b + 3) y3_115))) (tx_3 hb) dX3_value_337 rfl (fun h44 => ?_)
                    refine tr_stp (fun σw43 eσw43 => ?_)
                    refine tr_iinc C (i := 4) (d := 1) (lv' := [some (.ref (ad b)), some (.int a1), some (.ref (ad b2)), some (.int y3_115), some (.int (y4_115 + 1)), some (.int y5_115), some (.int ((rd σ115 (b + 3) (y3_115 - 1)) - (rd σ115 (b + 3) y3_115))), some (.int (rd σ115 (b + 3) y3_115))]) dX3_value_338 rfl (by decide) (by decide) rfl ?_
                    refine tr_goto C (tgt := 20) dX3_value_341 (by decide) ?_
                    refine tr_mask [true, true, true, true, true, false, false, false] rfl ?_
                    exact IH20 (σw43, y3_115, y4_115 + 1)
                  · refine tr_ite (fun q8 => ?_) (fun q8 => ?_)
                    · refine tr_tin C (k := (-13)) (tgt := 293) dX3_value_142 q8 (by decide) (by decide) rfl (by decide) ?_
                      refine tr_iload C (i := 6) dX3_value_293 rfl ?_
                      refine tr_iload C (i := 7) dX3_value_295 rfl ?_
                      refine tr_iadd C dX3_value_297 ?_
                      refine tr_istore C (i := 6) (lv' := [some (.ref (ad b)), some (.int a1), some (.ref (ad b2)), some (.int y3_115), some (.int y4_115), some (.int y5_115), some (.int ((rd σ115 (b + 3) (y3_115 - 1)) + (rd σ115 (b + 3) y3_115))), some (.int (rd σ115 (b + 3) y3_115))]) dX3_value_298 (by decide) rfl ?_
                      refine tr_goto C (tgt := 328) dX3_value_300 (by decide) ?_
                      refine tr_aload_n C (i := 0) dX3_value_328 rfl rfl ?_
                      refine tr_getR C (k := 2) (ci := 3) (tx_0 hb) rfl rfl inT3 rfl (by decide) w168 dX3_value_329 ?_
                      refine tr_iload_n C (i := 3) dX3_value_332 rfl rfl ?_
                      refine tr_iconst C (v := 1) dX3_value_333 (by decide) ?_
                      refine tr_isub C dX3_value_334 ?_
                      refine tr_iload C (i := 6) dX3_value_335 rfl ?_
                      refine tr_iast C (n := 161) (σ' := wr σ115 (b + 3) (y3_115 - 1) ((rd σ115 (b + 3) (y3_115 - 1)) + (rd σ115 (b + 3) y3_115))) (tx_3 hb) dX3_value_337 rfl (fun h42 => ?_)
                      refine tr_stp (fun σw41 eσw41 => ?_)
                      refine tr_iinc C (i := 4) (d := 1) (lv' := [some (.ref (ad b)), some (.int a1), some (.ref (ad b2)), some (.int y3_115), some (.int (y4_115 + 1)), some (.int y5_115), some (.int ((rd σ115 (b + 3) (y3_115 - 1)) + (rd σ115 (b + 3) y3_115))), some (.int (rd σ115 (b + 3) y3_115))]) dX3_value_338 rfl (by decide) (by decide) rfl ?_
                      refine tr_goto C (tgt := 20) dX3_value_341 (by decide) ?_
                      refine tr_mask [true, true, true, true, true, false, false, false] rfl ?_
                      exact IH20 (σw41, y3_115, y4_115 + 1)
                    · refine tr_ite (fun q9 => ?_) (fun q9 => ?_)
                      · refine tr_tin C (k := (-12)) (tgt := 323) dX3_value_142 q9 (by decide) (by decide) rfl (by decide) ?_
                        refine tr_iload C (i := 6) dX3_value_323 rfl ?_
                        refine tr_ineg C dX3_value_325 ?_
                        refine tr_istore C (i := 6) (lv' := [some (.ref (ad b)), some (.int a1), some (.ref (ad b2)), some (.int y3_115), some (.int y4_115), some (.int y5_115), some (.int (-(rd σ115 (b + 3) (y3_115 - 1)))), some (.int (rd σ115 (b + 3) y3_115))]) dX3_value_326 (by decide) rfl ?_
                        refine tr_aload_n C (i := 0) dX3_value_328 rfl rfl ?_
                        refine tr_getR C (k := 2) (ci := 3) (tx_0 hb) rfl rfl inT3 rfl (by decide) w168 dX3_value_329 ?_
                        refine tr_iload_n C (i := 3) dX3_value_332 rfl rfl ?_
                        refine tr_iconst C (v := 1) dX3_value_333 (by decide) ?_
                        refine tr_isub C dX3_value_334 ?_
                        refine tr_iload C (i := 6) dX3_value_335 rfl ?_
                        refine tr_iast C (n := 161) (σ' := wr σ115 (b + 3) (y3_115 - 1) (-(rd σ115 (b + 3) (y3_115 - 1)))) (tx_3 hb) dX3_value_337 rfl (fun h40 => ?_)
                        refine tr_stp (fun σw39 eσw39 => ?_)
                        refine tr_iinc C (i := 4) (d := 1) (lv' := [some (.ref (ad b)), some (.int a1), some (.ref (ad b2)), some (.int y3_115), some (.int (y4_115 + 1)), some (.int y5_115), some (.int (-(rd σ115 (b + 3) (y3_115 - 1)))), some (.int (rd σ115 (b + 3) y3_115))]) dX3_value_338 rfl (by decide) (by decide) rfl ?_
                        refine tr_goto C (tgt := 20) dX3_value_341 (by decide) ?_
                        refine tr_mask [true, true, true, true, true, false, false, false] rfl ?_
                        exact IH20 (σw39, y3_115, y4_115 + 1)
                      · refine tr_ite (fun q10 => ?_) (fun q10 => ?_)
                        · refine tr_tin C (k := (-11)) (tgt := 323) dX3_value_142 q10 (by decide) (by decide) rfl (by decide) ?_
                          refine tr_iload C (i := 6) dX3_value_323 rfl ?_
                          refine tr_ineg C dX3_value_325 ?_
                          refine tr_istore C (i := 6) (lv' := [some (.ref (ad b)), some (.int a1), some (.ref (ad b2)), some (.int y3_115), some (.int y4_115), some (.int y5_115), some (.int (-(rd σ115 (b + 3) (y3_115 - 1)))), some (.int (rd σ115 (b + 3) y3_115))]) dX3_value_326 (by decide) rfl ?_
                          refine tr_aload_n C (i := 0) dX3_value_328 rfl rfl ?_
                          refine tr_getR C (k := 2) (ci := 3) (tx_0 hb) rfl rfl inT3 rfl (by decide) w168 dX3_value_329 ?_
                          refine tr_iload_n C (i := 3) dX3_value_332 rfl rfl ?_
                          refine tr_iconst C (v := 1) dX3_value_333 (by decide) ?_
                          refine tr_isub C dX3_value_334 ?_
                          refine tr_iload C (i := 6) dX3_value_335 rfl ?_
                          refine tr_iast C (n := 161) (σ' := wr σ115 (b + 3) (y3_115 - 1) (-(rd σ115 (b + 3) (y3_115 - 1)))) (tx_3 hb) dX3_value_337 rfl (fun h38 => ?_)
                          refine tr_stp (fun σw37 eσw37 => ?_)
                          refine tr_iinc C (i := 4) (d := 1) (lv' := [some (.ref (ad b)), some (.int a1), some (.ref (ad b2)), some (.int y3_115), some (.int (y4_115 + 1)), some (.int y5_115), some (.int (-(rd σ115 (b + 3) (y3_115 - 1)))), some (.int (rd σ115 (b + 3) y3_115))]) dX3_value_338 rfl (by decide) (by decide) rfl ?_
                          refine tr_goto C (tgt := 20) dX3_value_341 (by decide) ?_
                          refine tr_mask [true, true, true, true, true, false, false, false] rfl ?_
                          exact IH20 (σw37, y3_115, y4_115 + 1)
                        · refine tr_ite (fun q11 => ?_) (fun q11 => ?_)
                          · refine tr_tin C (k := (-10)) (tgt := 323) dX3_value_142 q11 (by decide) (by decide) rfl (by decide) ?_
                            refine tr_iload C (i := 6) dX3_value_323 rfl ?_
                            refine tr_ineg C dX3_value_325 ?_
                            refine tr_istore C (i := 6) (lv' := [some (.ref (ad b)), some (.int a1), some (.ref (ad b2)), some (.int y3_115), some (.int y4_115), some (.int y5_115), some (.int (-(rd σ115 (b + 3) (y3_115 - 1)))), some (.int (rd σ115 (b + 3) y3_115))]) dX3_value_326 (by decide) rfl ?_
                            refine tr_aload_n C (i := 0) dX3_value_328 rfl rfl ?_
                            refine tr_getR C (k := 2) (ci := 3) (tx_0 hb) rfl rfl inT3 rfl (by decide) w168 dX3_value_329 ?_
                            refine tr_iload_n C (i := 3) dX3_value_332 rfl rfl ?_
                            refine tr_iconst C (v := 1) dX3_value_333 (by decide) ?_
                            refine tr_isub C dX3_value_334 ?_
                            refine tr_iload C (i := 6) dX3_value_335 rfl ?_
                            refine tr_iast C (n := 161) (σ' := wr σ115 (b + 3) (y3_115 - 1) (-(rd σ115 (b + 3) (y3_115 - 1)))) (tx_3 hb) dX3_value_337 rfl (fun h36 => ?_)
                            refine tr_stp (fun σw35 eσw35 => ?_)
                            refine tr_iinc C (i := 4) (d := 1) (lv' := [some (.ref (ad b)), some (.int a1), some (.ref (ad b2)), some (.int y3_115), some (.int (y4_115 + 1)), some (.int y5_115), some (.int (-(rd σ115 (b + 3) (y3_115 - 1)))), some (.int (rd σ115 (b + 3) y3_115))]) dX3_value_338 rfl (by decide) (by decide) rfl ?_
                            refine tr_goto C (tgt := 20) dX3_value_341 (by decide) ?_
                            refine tr_mask [true, true, true, true, true, false, false, false] rfl ?_
                            exact IH20 (σw35, y3_115, y4_115 + 1)
                          · refine tr_ite (fun q12 => ?_) (fun q12 => ?_)
                            · refine tr_tin C (k := (-9)) (tgt := 323) dX3_value_142 q12 (by decide) (by decide) rfl (by decide) ?_
                              refine tr_iload C (i := 6) dX3_value_323 rfl ?_
                              refine tr_ineg C dX3_value_325 ?_
                              refine tr_istore C (i := 6) (lv' := [some (.ref (ad b)), some (.int a1), some (.ref (ad b2)), some (.int y3_115), some (.int y4_115), some (.int y5_115), some (.int (-(rd σ115 (b + 3) (y3_115 - 1)))), some (.int (rd σ115 (b + 3) y3_115))]) dX3_value_326 (by decide) rfl ?_
                              refine tr_aload_n C (i := 0) dX3_value_328 rfl rfl ?_
                              refine tr_getR C (k := 2) (ci := 3) (tx_0 hb) rfl rfl inT3 rfl (by decide) w168 dX3_value_329 ?_
                              refine tr_iload_n C (i := 3) dX3_value_332 rfl rfl ?_
                              refine tr_iconst C (v := 1) dX3_value_333 (by decide) ?_
                              refine tr_isub C dX3_value_334 ?_
                              refine tr_iload C (i := 6) dX3_value_335 rfl ?_
                              refine tr_iast C (n := 161) (σ' := wr σ115 (b + 3) (y3_115 - 1) (-(rd σ115 (b + 3) (y3_115 - 1)))) (tx_3 hb) dX3_value_337 rfl (fun h34 => ?_)
                              refine tr_stp (fun σw33 eσw33 => ?_)
                              refine tr_iinc C (i := 4) (d := 1) (lv' := [some (.ref (ad b)), some (.int a1), some (.ref (ad b2)), some (.int y3_115), some (.int (y4_115 + 1)), some (.int y5_115), some (.int (-(rd σ115 (b + 3) (y3_115 - 1)))), some (.int (rd σ115 (b + 3) y3_115))]) dX3_value_338 rfl (by decide) (by decide) rfl ?_
                              refine tr_goto C (tgt := 20) dX3_value_341 (by decide) ?_
                              refine tr_mask [true, true, true, true, true, false, false, false] rfl ?_
                              exact IH20 (σw33, y3_115, y4_115 + 1)
                            · refine tr_ite (fun q13 => ?_) (fun q13 => ?_)
                              · refine tr_tin C (k := (-8)) (tgt := 244) dX3_value_142 q13 (by decide) (by decide) rfl (by decide) ?_
                                refine tr_iload C (i := 6) dX3_value_244 rfl ?_
                                refine tr_if_ne C (tgt := 253) dX3_value_246 (by decide) (fun q32 => ?_) (fun q32 => ?_)
                                · refine tr_iconst C (v := 1) dX3_value_249 (by decide) ?_
                                  refine tr_goto C (tgt := 254) dX3_value_250 (by decide) ?_
                                  refine tr_istore C (i := 6) (lv' := [some (.ref (ad b)), some (.int a1), some (.ref (ad b2)), some (.int y3_115), some (.int y4_115), some (.int y5_115), some (.int 1), some (.int (rd σ115 (b + 3) y3_115))]) dX3_value_254 (by decide) rfl ?_
                                  refine tr_goto C (tgt := 328) dX3_value_256 (by decide) ?_
                                  refine tr_aload_n C (i := 0) dX3_value_328 rfl rfl ?_
                                  refine tr_getR C (k := 2) (ci := 3) (tx_0 hb) rfl rfl inT3 rfl (by decide) w168 dX3_value_329 ?_
                                  refine tr_iload_n C (i := 3) dX3_value_332 rfl rfl ?_
                                  refine tr_iconst C (v := 1) dX3_value_333 (by decide) ?_
                                  refine tr_isub C dX3_value_334 ?_
                                  refine tr_iload C (i := 6) dX3_value_335 rfl ?_
                                  refine tr_iast C (n := 161) (σ' := wr σ115 (b + 3) (y3_115 - 1) 1) (tx_3 hb) dX3_value_337 rfl (fun h31 => ?_)
                                  refine tr_stp (fun σw30 eσw30 => ?_)
                                  refine tr_iinc C (i := 4) (d := 1) (lv' := [some (.ref (ad b)), some (.int a1), some (.ref (ad b2)), some (.int y3_115), some (.int (y4_115 + 1)), some (.int y5_115), some (.int 1), some (.int (rd σ115 (b + 3) y3_115))]) dX3_value_338 rfl (by decide) (by decide) rfl ?_
                                  refine tr_goto C (tgt := 20) dX3_value_341 (by decide) ?_
                                  refine tr_mask [true, true, true, true, true, false, false, false] rfl ?_
                                  exact IH20 (σw30, y3_115, y4_115 + 1)
                                · refine tr_iconst C (v := 0) dX3_value_253 (by decide) ?_
                                  refine tr_istore C (i := 6) (lv' := [some (.ref (ad b)), some (.int a1), some (.ref (ad b2)), some (.int y3_115), some (.int y4_115), some (.int y5_115), some (.int 0), some (.int (rd σ115 (b + 3) y3_115))]) dX3_value_254 (by decide) rfl ?_
                                  refine tr_goto C (tgt := 328) dX3_value_256 (by decide) ?_
                                  refine tr_aload_n C (i := 0) dX3_value_328 rfl rfl ?_
                                  refine tr_getR C (k := 2) (ci := 3) (tx_0 hb) rfl rfl inT3 rfl (by decide) w168 dX3_value_329 ?_
                                  refine tr_iload_n C (i := 3) dX3_value_332 rfl rfl ?_
                                  refine tr_iconst C (v := 1) dX3_value_333 (by decide) ?_
                                  refine tr_isub C dX3_value_334 ?_
                                  refine tr_iload C (i := 6) dX3_value_335 rfl ?_
                                  refine tr_iast C (n := 161) (σ' := wr σ115 (b + 3) (y3_115 - 1) 0) (tx_3 hb) dX3_value_337 rfl (fun h29 => ?_)
                                  refine tr_stp (fun σw28 eσw28 => ?_)
                                  refine tr_iinc C (i := 4) (d := 1) (lv' := [some (.ref (ad b)), some (.int a1), some (.ref (ad b2)), some (.int y3_115), some (.int (y4_115 + 1)), some (.int y5_115), some (.int 0), some (.int (rd σ115 (b + 3) y3_115))]) dX3_value_338 rfl (by decide) (by decide) rfl ?_
                                  refine tr_goto C (tgt := 20) dX3_value_341 (by decide) ?_
                                  refine tr_mask [true, true, true, true, true, false, false, false] rfl ?_
                                  exact IH20 (σw28, y3_115, y4_115 + 1)
                              · refine tr_ite (fun q14 => ?_) (fun q14 => ?_)
                                · refine tr_tin C (k := (-7)) (tgt := 224) dX3_value_142 q14 (by decide) (by decide) rfl (by decide) ?_
                                  refine tr_iload C (i := 6) dX3_value_224 rfl ?_
                                  have B238 : ∀ (σ238 : Mem) (y3_238 : Int32) (y4_238 : Int32), Tr p l e { frames := 0, cells := 0, slots := 0, locals := 0 } s m args below meth c g ad (shC g) A 8 (QI g ad (shC g) A below args s) (fX3_value_b238 b a1 b2 ih20 σ238 y3_238 y4_238) σ238 238 [some (.ref (ad b)), some (.int a1), some (.ref (ad b2)), some (.int y3_238), some (.int y4_238), none, none, none] [] := by
                                    intro σ238 y3_238 y4_238
                                    refine tr_iconst C (v := 0) dX3_value_238 (by decide) ?_
                                    refine tr_istore C (i := 6) (lv' := [some (.ref (ad b)), some (.int a1), some (.ref (ad b2)), some (.int y3_238), some (.int y4_238), none, some (.int 0), none]) dX3_value_239 (by decide) rfl ?_
                                    refine tr_goto C (tgt := 328) dX3_value_241 (by decide) ?_
                                    refine tr_aload_n C (i := 0) dX3_value_328 rfl rfl ?_
                                    refine tr_getR C (k := 2) (ci := 3) (tx_0 hb) rfl rfl inT3 rfl (by decide) w168 dX3_value_329 ?_
                                    refine tr_iload_n C (i := 3) dX3_value_332 rfl rfl ?_
                                    refine tr_iconst C (v := 1) dX3_value_333 (by decide) ?_
                                    refine tr_isub C dX3_value_334 ?_
                                    refine tr_iload C (i := 6) dX3_value_335 rfl ?_
                                    refine tr_iast C (n := 161) (σ' := wr σ238 (b + 3) (y3_238 - 1) 0) (tx_3 hb) dX3_value_337 rfl (fun h23 => ?_)
                                    refine tr_stp (fun σw22 eσw22 => ?_)
                                    refine tr_iinc C (i := 4) (d := 1) (lv' := [some (.ref (ad b)), some (.int a1), some (.ref (ad b2)), some (.int y3_238), some (.int (y4_238 + 1)), none, some (.int 0), none]) dX3_value_338 rfl (by decide) (by decide) rfl ?_
                                    refine tr_goto C (tgt := 20) dX3_value_341 (by decide) ?_
                                    refine tr_mask [true, true, true, true, true, false, false, false] rfl ?_
                                    exact IH20 (σw22, y3_238, y4_238 + 1)
                                  refine tr_if_eq C (tgt := 238) dX3_value_226 (by decide) (fun q27 => ?_) (fun q27 => ?_)
                                  · refine tr_mask [true, true, true, true, true, false, false, false] rfl ?_
                                    exact B238 σ115 y3_115 y4_115
                                  · refine tr_iload C (i := 7) dX3_value_229 rfl ?_
                                    refine tr_if_eq C (tgt := 238) dX3_value_231 (by decide) (fun q26 => ?_) (fun q26 => ?_)
                                    · refine tr_mask [true, true, true, true, true, false, false, false] rfl ?_
                                      exact B238 σ115 y3_115 y4_115
                                    · refine tr_iconst C (v := 1) dX3_value_234 (by decide) ?_
                                      refine tr_goto C (tgt := 239) dX3_value_235 (by decide) ?_
                                      refine tr_istore C (i := 6) (lv' := [some (.ref (ad b)), some (.int a1), some (.ref (ad b2)), some (.int y3_115), some (.int y4_115), some (.int y5_115), some (.int 1), some (.int (rd σ115 (b + 3) y3_115))]) dX3_value_239 (by decide) rfl ?_
                                      refine tr_goto C (tgt := 328) dX3_value_241 (by decide) ?_
                                      refine tr_aload_n C (i := 0) dX3_value_328 rfl rfl ?_
                                      refine tr_getR C (k := 2) (ci := 3) (tx_0 hb) rfl rfl inT3 rfl (by decide) w168 dX3_value_329 ?_
                                      refine tr_iload_n C (i := 3) dX3_value_332 rfl rfl ?_
                                      refine tr_iconst C (v := 1) dX3_value_333 (by decide) ?_
                                      refine tr_isub C dX3_value_334 ?_
                                      refine tr_iload C (i := 6) dX3_value_335 rfl ?_
                                      refine tr_iast C (n := 161) (σ' := wr σ115 (b + 3) (y3_115 - 1) 1) (tx_3 hb) dX3_value_337 rfl (fun h25 => ?_)
                                      refine tr_stp (fun σw24 eσw24 => ?_)
                                      refine tr_iinc C (i := 4) (d := 1) (lv' := [some (.ref (ad b)), some (.int a1), some (.ref (ad b2)), some (.int y3_115), some (.int (y4_115 + 1)), some (.int y5_115), some (.int 1), some (.int (rd σ115 (b + 3) y3_115))]) dX3_value_338 rfl (by decide) (by decide) rfl ?_
                                      refine tr_goto C (tgt := 20) dX3_value_341 (by decide) ?_
                                      refine tr_mask [true, true, true, true, true, false, false, false] rfl ?_
                                      exact IH20 (σw24, y3_115, y4_115 + 1)
                                · refine tr_ite (fun q15 => ?_) (fun q15 => ?_)
                                  · refine tr_tin C (k := (-6)) (tgt := 204) dX3_value_142 q15 (by decide) (by decide) rfl (by decide) ?_
                                    refine tr_iload C (i := 6) dX3_value_204 rfl ?_
                                    have B214 : ∀ (σ214 : Mem) (y3_214 : Int32) (y4_214 : Int32), Tr p l e { frames := 0, cells := 0, slots := 0, locals := 0 } s m args below meth c g ad (shC g) A 8 (QI g ad (shC g) A below args s) (fX3_value_b214 b a1 b2 ih20 σ214 y3_214 y4_214) σ214 214 [some (.ref (ad b)), some (.int a1), some (.ref (ad b2)), some (.int y3_214), some (.int y4_214), none, none, none] [] := by
                                      intro σ214 y3_214 y4_214
                                      refine tr_iconst C (v := 1) dX3_value_214 (by decide) ?_
                                      refine tr_goto C (tgt := 219) dX3_value_215 (by decide) ?_
                                      refine tr_istore C (i := 6) (lv' := [some (.ref (ad b)), some (.int a1), some (.ref (ad b2)), some (.int y3_214), some (.int y4_214), none, some (.int 1), none]) dX3_value_219 (by decide) rfl ?_
                                      refine tr_goto C (tgt := 328) dX3_value_221 (by decide) ?_
                                      refine tr_aload_n C (i := 0) dX3_value_328 rfl rfl ?_
                                      refine tr_getR C (k := 2) (ci := 3) (tx_0 hb) rfl rfl inT3 rfl (by decide) w168 dX3_value_329 ?_
                                      refine tr_iload_n C (i := 3) dX3_value_332 rfl rfl ?_
                                      refine tr_iconst C (v := 1) dX3_value_333 (by decide) ?_
                                      refine tr_isub C dX3_value_334 ?_
                                      refine tr_iload C (i := 6) dX3_value_335 rfl ?_
                                      refine tr_iast C (n := 161) (σ' := wr σ214 (b + 3) (y3_214 - 1) 1) (tx_3 hb) dX3_value_337 rfl (fun h17 => ?_)
                                      refine tr_stp (fun σw16 eσw16 => ?_)
                                      refine tr_iinc C (i := 4) (d := 1) (lv' := [some (.ref (ad b)), some (.int a1), some (.ref (ad b2)), some (.int y3_214), some (.int (y4_214 + 1)), none, some (.int 1), none]) dX3_value_338 rfl (by decide) (by decide) rfl ?_
                                      refine tr_goto C (tgt := 20) dX3_value_341 (by decide) ?_
                                      refine tr_mask [true, true, true, true, true, false, false, false] rfl ?_
                                      exact IH20 (σw16, y3_214, y4_214 + 1)
                                    refine tr_if_ne C (tgt := 214) dX3_value_206 (by decide) (fun q21 => ?_) (fun q21 => ?_)
                                    · refine tr_iload C (i := 7) dX3_value_209 rfl ?_
                                      refine tr_if_eq C (tgt := 218) dX3_value_211 (by decide) (fun q20 => ?_) (fun q20 => ?_)
                                      · refine tr_iconst C (v := 0) dX3_value_218 (by decide) ?_
                                        refine tr_istore C (i := 6) (lv' := [some (.ref (ad b)), some (.int a1), some (.ref (ad b2)), some (.int y3_115), some (.int y4_115), some (.int y5_115), some (.int 0), some (.int (rd σ115 (b + 3) y3_115))]) dX3_value_219 (by decide) rfl ?_
                                        refine tr_goto C (tgt := 328) dX3_value_221 (by decide) ?_
                                        refine tr_aload_n C (i := 0) dX3_value_328 rfl rfl ?_
                                        refine tr_getR C (k := 2) (ci := 3) (tx_0 hb) rfl rfl inT3 rfl (by decide) w168 dX3_value_329 ?_
                                        refine tr_iload_n C (i := 3) dX3_value_332 rfl rfl ?_
                                        refine tr_iconst C (v := 1) dX3_value_333 (by decide) ?_
                                        refine tr_isub C dX3_value_334 ?_
                                        refine tr_iload C (i := 6) dX3_value_335 rfl ?_
                                        refine tr_iast C (n := 161) (σ' := wr σ115 (b + 3) (y3_115 - 1) 0) (tx_3 hb) dX3_value_337 rfl (fun h19 => ?_)
                                        refine tr_stp (fun σw18 eσw18 => ?_)
                                        refine tr_iinc C (i := 4) (d := 1) (lv' := [some (.ref (ad b)), some (.int a1), some (.ref (ad b2)), some (.int y3_115), some (.int (y4_115 + 1)), some (.int y5_115), some (.int 0), some (.int (rd σ115 (b + 3) y3_115))]) dX3_value_338 rfl (by decide) (by decide) rfl ?_
                                        refine tr_goto C (tgt := 20) dX3_value_341 (by decide) ?_
                                        refine tr_mask [true, true, true, true, true, false, false, false] rfl ?_
                                        exact IH20 (σw18, y3_115, y4_115 + 1)
                                      · refine tr_mask [true, true, true, true, true, false, false, false] rfl ?_
                                        exact B214 σ115 y3_115 y4_115
                                    · refine tr_mask [true, true, true, true, true, false, false, false] rfl ?_
                                      exact B214 σ115 y3_115 y4_115
                                  · refine tr_tout C (tgt := 323) dX3_value_142 (by have eq4 := neI (-17) q4 (by decide); have eq5 := neI (-16) q5 (by decide); have eq6 := neI (-15) q6 (by decide); have eq7 := neI (-14) q7 (by decide); have eq8 := neI (-13) q8 (by decide); have eq9 := neI (-12) q9 (by decide); have eq10 := neI (-11) q10 (by decide); have eq11 := neI (-10) q11 (by decide); have eq12 := neI (-9) q12 (by decide); have eq13 := neI (-8) q13 (by decide); have eq14 := neI (-7) q14 (by decide); have eq15 := neI (-6) q15 (by decide); omega) (by decide) ?_
                                    refine tr_iload C (i := 6) dX3_value_323 rfl ?_
                                    refine tr_ineg C dX3_value_325 ?_
                                    refine tr_istore C (i := 6) (lv' := [some (.ref (ad b)), some (.int a1), some (.ref (ad b2)), some (.int y3_115), some (.int y4_115), some (.int y5_115), some (.int (-(rd σ115 (b + 3) (y3_115 - 1)))), some (.int (rd σ115 (b + 3) y3_115))]) dX3_value_326 (by decide) rfl ?_
                                    refine tr_aload_n C (i := 0) dX3_value_328 rfl rfl ?_
                                    refine tr_getR C (k := 2) (ci := 3) (tx_0 hb) rfl rfl inT3 rfl (by decide) w168 dX3_value_329 ?_
                                    refine tr_iload_n C (i := 3) dX3_value_332 rfl rfl ?_
                                    refine tr_iconst C (v := 1) dX3_value_333 (by decide) ?_
                                    refine tr_isub C dX3_value_334 ?_
                                    refine tr_iload C (i := 6) dX3_value_335 rfl ?_
                                    refine tr_iast C (n := 161) (σ' := wr σ115 (b + 3) (y3_115 - 1) (-(rd σ115 (b + 3) (y3_115 - 1)))) (tx_3 hb) dX3_value_337 rfl (fun h3 => ?_)
                                    refine tr_stp (fun σw2 eσw2 => ?_)
                                    refine tr_iinc C (i := 4) (d := 1) (lv' := [some (.ref (ad b)), some (.int a1), some (.ref (ad b2)), some (.int y3_115), some (.int (y4_115 + 1)), some (.int y5_115), some (.int (-(rd σ115 (b + 3) (y3_115 - 1)))), some (.int (rd σ115 (b + 3) y3_115))]) dX3_value_338 rfl (by decide) (by decide) rfl ?_
                                    refine tr_goto C (tgt := 20) dX3_value_341 (by decide) ?_
                                    refine tr_mask [true, true, true, true, true, false, false, false] rfl ?_
                                    exact IH20 (σw2, y3_115, y4_115 + 1)
          · refine tr_iconst C (v := 0) dX3_value_120 (by decide) ?_
            exact tr_iret C hr hlk dX3_value_121
        refine tr_icmp_eq C (tgt := 115) dX3_value_102 (by decide) (fun q61 => ?_) (fun q61 => ?_)
        · exact B115 σ20 y3_20 y4_20 (rd σ20 (b + 1) y4_20)
        · refine tr_iload C (i := 5) dX3_value_105 rfl ?_
          refine tr_bipush C (v := -18) dX3_value_107 (by decide) ?_
          refine tr_icmp_eq C (tgt := 115) dX3_value_109 (by decide) (fun q60 => ?_) (fun q60 => ?_)
          · exact B115 σ20 y3_20 y4_20 (rd σ20 (b + 1) y4_20)
          · refine tr_iinc C (i := 3) (d := (-1)) (lv' := [some (.ref (ad b)), some (.int a1), some (.ref (ad b2)), some (.int (y3_20 + (-1))), some (.int y4_20), some (.int (rd σ20 (b + 1) y4_20)), none, none]) dX3_value_112 rfl (by decide) (by decide) rfl ?_
            exact B115 σ20 (y3_20 + (-1)) y4_20 (rd σ20 (b + 1) y4_20)
      · refine tr_iload_n C (i := 3) dX3_value_45 rfl rfl ?_
        refine tr_sipush C (v := 160) dX3_value_46 (by decide) ?_
        refine tr_icmp_ge C (tgt := 63) dX3_value_49 (by decide) (fun q69 => ?_) (fun q69 => ?_)
        · refine tr_iconst C (v := 0) dX3_value_63 (by decide) ?_
          exact tr_iret C hr hlk dX3_value_64
        · refine tr_iload C (i := 5) dX3_value_52 rfl ?_
          refine tr_sipush C (v := 10000) dX3_value_54 (by decide) ?_
          refine tr_isub C dX3_value_57 ?_
          refine tr_bipush C (v := 6) dX3_value_58 (by decide) ?_
          refine tr_icmp_lt C (tgt := 65) dX3_value_60 (by decide) (fun q68 => ?_) (fun q68 => ?_)
          · refine tr_aload_n C (i := 0) dX3_value_65 rfl rfl ?_
            refine tr_getR C (k := 2) (ci := 3) (tx_0 hb) rfl rfl inT3 rfl (by decide) w168 dX3_value_66 ?_
            refine tr_iload_n C (i := 3) dX3_value_69 rfl rfl ?_
            refine tr_iload C (i := 5) dX3_value_70 rfl ?_
            refine tr_sipush C (v := 10000) dX3_value_72 (by decide) ?_
            refine tr_icmp_ge C (tgt := 83) dX3_value_75 (by decide) (fun q67 => ?_) (fun q67 => ?_)
            · refine tr_aload_n C (i := 2) dX3_value_83 rfl rfl ?_
              refine tr_iload C (i := 5) dX3_value_84 rfl ?_
              refine tr_sipush C (v := 10000) dX3_value_86 (by decide) ?_
              refine tr_isub C dX3_value_89 ?_
              refine tr_iald C (n := 6) (fa_0 hb2) dX3_value_90 (fun h64 => ?_)
              refine tr_iast C (n := 161) (σ' := wr σ20 (b + 3) y3_20 (rd σ20 b2 ((rd σ20 (b + 1) y4_20) - 10000))) (tx_3 hb) dX3_value_91 rfl (fun h63 => ?_)
              refine tr_stp (fun σw62 eσw62 => ?_)
              refine tr_iinc C (i := 3) (d := 1) (lv' := [some (.ref (ad b)), some (.int a1), some (.ref (ad b2)), some (.int (y3_20 + 1)), some (.int y4_20), some (.int (rd σ20 (b + 1) y4_20)), none, none]) dX3_value_92 rfl (by decide) (by decide) rfl ?_
              refine tr_goto C (tgt := 338) dX3_value_95 (by decide) ?_
              refine tr_iinc C (i := 4) (d := 1) (lv' := [some (.ref (ad b)), some (.int a1), some (.ref (ad b2)), some (.int (y3_20 + 1)), some (.int (y4_20 + 1)), some (.int (rd σ20 (b + 1) y4_20)), none, none]) dX3_value_338 rfl (by decide) (by decide) rfl ?_
              refine tr_goto C (tgt := 20) dX3_value_341 (by decide) ?_
              refine tr_mask [true, true, true, true, true, false, false, false] rfl ?_
              exact IH20 (σw62, y3_20 + 1, y4_20 + 1)
            · refine tr_iload C (i := 5) dX3_value_78 rfl ?_
              refine tr_goto C (tgt := 91) dX3_value_80 (by decide) ?_
              refine tr_iast C (n := 161) (σ' := wr σ20 (b + 3) y3_20 (rd σ20 (b + 1) y4_20)) (tx_3 hb) dX3_value_91 rfl (fun h66 => ?_)
              refine tr_stp (fun σw65 eσw65 => ?_)
              refine tr_iinc C (i := 3) (d := 1) (lv' := [some (.ref (ad b)), some (.int a1), some (.ref (ad b2)), some (.int (y3_20 + 1)), some (.int y4_20), some (.int (rd σ20 (b + 1) y4_20)), none, none]) dX3_value_92 rfl (by decide) (by decide) rfl ?_
              refine tr_goto C (tgt := 338) dX3_value_95 (by decide) ?_
              refine tr_iinc C (i := 4) (d := 1) (lv' := [some (.ref (ad b)), some (.int a1), some (.ref (ad b2)), some (.int (y3_20 + 1)), some (.int (y4_20 + 1)), some (.int (rd σ20 (b + 1) y4_20)), none, none]) dX3_value_338 rfl (by decide) (by decide) rfl ?_
              refine tr_goto C (tgt := 20) dX3_value_341 (by decide) ?_
              refine tr_mask [true, true, true, true, true, false, false, false] rfl ?_
              exact IH20 (σw65, y3_20 + 1, y4_20 + 1)
          · refine tr_iconst C (v := 0) dX3_value_63 (by decide) ?_
            exact tr_iret C hr hlk dX3_value_64
def fX0_telling (b : Nat) (a1 : Int32) (a2 : Int32) (σ : Mem) : Option (Int32 × Mem) :=
  bn1 (fX4_within (σ.1 b 6) 0 5 σ) fun r1 => (
    if r1 = 0 then (
      some (0, σ)
    ) else (
      gd (inB 0 6) (stp (wr σ (b + 5) 0 (σ.1 b 5)) fun σw2 => (
        gd (inB a2 8) (
          gd (inB 1 6) (stp (wr σw2 (b + 5) 1 (rd σw2 (b + 2) a2)) fun σw3 => (
            gd (inB a2 8) (
              gd (inB 2 6) (stp (wr σw3 (b + 5) 2 ((rd σw3 (b + 3) a2) / 6)) fun σw4 => (
                gd (inB a2 8) (
                  gd (inB 3 6) (stp (wr σw4 (b + 5) 3 ((rd σw4 (b + 3) a2) - (rd σw4 (b + 3) a2) / 6 * 6)) fun σw5 => (
                    bn1 (fX0_kin b a2 σw5) fun r6 => (
                      gd (inB 4 6) (stp (wr σw5 (b + 5) 4 r6) fun σw7 => (
                        gd (inB 5 6) (stp (wr σw7 (b + 5) 5 (σw7.1 b 4)) fun σw8 => (
                          gd (inB (σw8.1 b 6) 6) (
                            bnd (fX3_value (8 + 4 * (σw8.1 b 6).toNatClampNeg) a1 (b + 5) σw8) fun r10 σ10 => (
                              some (r10, σ10)
                            )
                          )
                        ))
                      ))
                    )
                  ))
                )
              ))
            )
          ))
        )
      ))
    )
  )
set_option maxHeartbeats 4000000 in
set_option maxRecDepth 100000 in
theorem kX0_telling (l : Launch) (g : GG) (cs : CS) (ad : Nat → Nat) (b : Nat) (a1 : Int32) (a2 : Int32) (hb : isFl b) (σ : Mem) : CtI l g cs ad (shC g) mX0_telling (.code mX0_telling cX0_telling 3 (some .int)) { frames := 1, cells := 0, slots := 0, locals := 27 } [.ref (ad b), .int a1, .int a2] σ (fX0_telling b a1 a2 σ) := by
  refine ctI_intro (own := "KinInTheHeap$Floor") (by decide +kernel) rfl [some (.ref (ad b)), some (.int a1), some (.int a2)] (Nat.le_of_ble_eq_true rfl) rfl ?_
  intro p e s m args below meth c A C hr hlk
  refine tr_aload_n C (i := 0) dX0_telling_0 rfl rfl ?_
  refine tr_getI C (k := 6) (ci := 0) (fl_0 hb) rfl rfl inT0 rfl (by decide) w234 dX0_telling_1 ?_
  refine tr_iconst C (v := 0) dX0_telling_4 (by decide) ?_
  refine tr_iconst C (v := 5) dX0_telling_5 (by decide) ?_
  refine tr_cNIP C (av := [.int (σ.1 b 6), .int 0, .int 5]) (st := []) (kX4_within l g cs ad (σ.1 b 6) 0 5 σ) mwX4_within (C.2.1.2.1.1) ⟨rfl, rfl⟩ ⟨(Nat.le_of_ble_eq_true rfl), (Nat.le_of_ble_eq_true rfl)⟩ rfl rfl (Nat.le_of_ble_eq_true rfl) dX0_telling_6 (fun r1 hr1 => ?_)
  refine tr_if_ne C (tgt := 14) dX0_telling_9 (by decide) (fun q20 => ?_) (fun q20 => ?_)
  · refine tr_iconst C (v := 0) dX0_telling_12 (by decide) ?_
    exact tr_iret C hr hlk dX0_telling_13
  · refine tr_aload_n C (i := 0) dX0_telling_14 rfl rfl ?_
    refine tr_getR C (k := 10) (ci := 0) (fl_0 hb) rfl rfl inT0 rfl (by decide) w240 dX0_telling_15 ?_
    refine tr_iconst C (v := 0) dX0_telling_18 (by decide) ?_
    refine tr_aload_n C (i := 0) dX0_telling_19 rfl rfl ?_
    refine tr_getI C (k := 5) (ci := 0) (fl_0 hb) rfl rfl inT0 rfl (by decide) w232 dX0_telling_20 ?_
    refine tr_iast C (n := 6) (σ' := wr σ (b + 5) 0 (σ.1 b 5)) (fl_5 hb) dX0_telling_23 rfl (fun h19 => ?_)
    refine tr_stp (fun σw2 eσw2 => ?_)
    refine tr_aload_n C (i := 0) dX0_telling_24 rfl rfl ?_
    refine tr_getR C (k := 10) (ci := 0) (fl_0 hb) rfl rfl inT0 rfl (by decide) w240 dX0_telling_25 ?_
    refine tr_iconst C (v := 1) dX0_telling_28 (by decide) ?_
    refine tr_aload_n C (i := 0) dX0_telling_29 rfl rfl ?_
    refine tr_getR C (k := 1) (ci := 0) (fl_0 hb) rfl rfl inT0 rfl (by decide) w224 dX0_telling_30 ?_
    refine tr_iload_n C (i := 2) dX0_telling_33 rfl rfl ?_
    refine tr_iald C (n := 8) (fl_2 hb) dX0_telling_34 (fun h18 => ?_)
    refine tr_iast C (n := 6) (σ' := wr σw2 (b + 5) 1 (rd σw2 (b + 2) a2)) (fl_5 hb) dX0_telling_35 rfl (fun h17 => ?_)
    refine tr_stp (fun σw3 eσw3 => ?_)
    refine tr_aload_n C (i := 0) dX0_telling_36 rfl rfl ?_
    refine tr_getR C (k := 10) (ci := 0) (fl_0 hb) rfl rfl inT0 rfl (by decide) w240 dX0_telling_37 ?_
    refine tr_iconst C (v := 2) dX0_telling_40 (by decide) ?_
    refine tr_aload_n C (i := 0) dX0_telling_41 rfl rfl ?_
    refine tr_getR C (k := 2) (ci := 0) (fl_0 hb) rfl rfl inT0 rfl (by decide) w226 dX0_telling_42 ?_
    refine tr_iload_n C (i := 2) dX0_telling_45 rfl rfl ?_
    refine tr_iald C (n := 8) (fl_3 hb) dX0_telling_46 (fun h16 => ?_)
    refine tr_bipush C (v := 6) dX0_telling_47 (by decide) ?_
    refine tr_idivK C dX0_telling_49 (by decide) ?_
    refine tr_iast C (n := 6) (σ' := wr σw3 (b + 5) 2 ((rd σw3 (b + 3) a2) / 6)) (fl_5 hb) dX0_telling_50 rfl (fun h15 => ?_)
    refine tr_stp (fun σw4 eσw4 => ?_)
    refine tr_aload_n C (i := 0) dX0_telling_51 rfl rfl ?_
    refine tr_getR C (k := 10) (ci := 0) (fl_0 hb) rfl rfl inT0 rfl (by decide) w240 dX0_telling_52 ?_
    refine tr_iconst C (v := 3) dX0_telling_55 (by decide) ?_
    refine tr_aload_n C (i := 0) dX0_telling_56 rfl rfl ?_
    refine tr_getR C (k := 2) (ci := 0) (fl_0 hb) rfl rfl inT0 rfl (by decide) w226 dX0_telling_57 ?_
    refine tr_iload_n C (i := 2) dX0_telling_60 rfl rfl ?_
    refine tr_iald C (n := 8) (fl_3 hb) dX0_telling_61 (fun h14 => ?_)
    refine tr_bipush C (v := 6) dX0_telling_62 (by decide) ?_
    refine tr_iremK C dX0_telling_64 (by decide) ?_
    refine tr_iast C (n := 6) (σ' := wr σw4 (b + 5) 3 ((rd σw4 (b + 3) a2) - (rd σw4 (b + 3) a2) / 6 * 6)) (fl_5 hb) dX0_telling_65 rfl (fun h13 => ?_)
    refine tr_stp (fun σw5 eσw5 => ?_)
    refine tr_aload_n C (i := 0) dX0_telling_66 rfl rfl ?_
    refine tr_getR C (k := 10) (ci := 0) (fl_0 hb) rfl rfl inT0 rfl (by decide) w240 dX0_telling_67 ?_
    refine tr_iconst C (v := 4) dX0_telling_70 (by decide) ?_
    refine tr_aload_n C (i := 0) dX0_telling_71 rfl rfl ?_
    refine tr_iload_n C (i := 2) dX0_telling_72 rfl rfl ?_
    refine tr_cVIP C (av := [.int a2]) (st := [.int 4, .ref (ad (b + 5))]) (kX0_kin l g cs ad b a2 hb σw5) mwX0_kin w376 (fl_0 hb) rfl ⟨rfl, rfl⟩ ⟨(Nat.le_of_ble_eq_true rfl), (Nat.le_of_ble_eq_true rfl)⟩ rfl rfl (Nat.le_of_ble_eq_true rfl) dX0_telling_73 (fun r6 hr6 => ?_)
    refine tr_iast C (n := 6) (σ' := wr σw5 (b + 5) 4 r6) (fl_5 hb) dX0_telling_76 rfl (fun h12 => ?_)
    refine tr_stp (fun σw7 eσw7 => ?_)
    refine tr_aload_n C (i := 0) dX0_telling_77 rfl rfl ?_
    refine tr_getR C (k := 10) (ci := 0) (fl_0 hb) rfl rfl inT0 rfl (by decide) w240 dX0_telling_78 ?_
    refine tr_iconst C (v := 5) dX0_telling_81 (by decide) ?_
    refine tr_aload_n C (i := 0) dX0_telling_82 rfl rfl ?_
    refine tr_getI C (k := 4) (ci := 0) (fl_0 hb) rfl rfl inT0 rfl (by decide) w230 dX0_telling_83 ?_
    refine tr_iast C (n := 6) (σ' := wr σw7 (b + 5) 5 (σw7.1 b 4)) (fl_5 hb) dX0_telling_86 rfl (fun h11 => ?_)
    refine tr_stp (fun σw8 eσw8 => ?_)
    refine tr_aload_n C (i := 0) dX0_telling_87 rfl rfl ?_
    refine tr_getR C (k := 8) (ci := 0) (fl_0 hb) rfl rfl inT0 rfl (by decide) w238 dX0_telling_88 ?_
    refine tr_aload_n C (i := 0) dX0_telling_91 rfl rfl ?_
    refine tr_getI C (k := 6) (ci := 0) (fl_0 hb) rfl rfl inT0 rfl (by decide) w234 dX0_telling_92 ?_
    refine tr_aald C (n := 6) (t0 := 2) (t := 8 + 4 * (σw8.1 b 6).toNatClampNeg) rfl rfl dX0_telling_95 rfl (fun h9 => ?_)
    refine tr_iload_n C (i := 1) dX0_telling_96 rfl rfl ?_
    refine tr_aload_n C (i := 0) dX0_telling_97 rfl rfl ?_
    refine tr_getR C (k := 10) (ci := 0) (fl_0 hb) rfl rfl inT0 rfl (by decide) w240 dX0_telling_98 ?_
    refine tr_cVI C (av := [.int a1, .ref (ad (b + 5))]) (st := []) (kX3_value l g cs ad (8 + 4 * (σw8.1 b 6).toNatClampNeg) a1 (b + 5) (isTx_of (lt_of_in h9)) (isFa_of hb) σw8) mwX3_value w380 (tx_0 (isTx_of (lt_of_in h9))) rfl ⟨rfl, rfl⟩ ⟨(Nat.le_of_ble_eq_true rfl), (Nat.le_of_ble_eq_true rfl)⟩ rfl rfl (Nat.le_of_ble_eq_true rfl) dX0_telling_101 (fun r10 σ10 hr10 => ?_)
    exact tr_iret C hr hlk dX0_telling_104
def fX0_bounded (a1 : Int32) (σ : Mem) : Option (Int32) :=
  some (if 0 < (if a1 < 9 then a1 else 9) then (if a1 < 9 then a1 else 9) else 0)
set_option maxHeartbeats 4000000 in
set_option maxRecDepth 100000 in
theorem kX0_bounded (l : Launch) (g : GG) (cs : CS) (ad : Nat → Nat) (a1 : Int32) (σ : Mem) : CtI l g cs ad (shC g) mX0_bounded (.code mX0_bounded cX0_bounded 1 (some .int)) { frames := 1, cells := 0, slots := 0, locals := 21 } [.int a1] σ (pur (fX0_bounded a1 σ) σ) := by
  refine ctIP_intro (own := "KinInTheHeap$Floor") (by decide +kernel) rfl [some (.int a1)] (Nat.le_of_ble_eq_true rfl) rfl ?_
  intro p e s m args below meth c A C hr hlk
  refine tr_iconst C (v := 0) dX0_bounded_0 (by decide) ?_
  refine tr_bipush C (v := 9) dX0_bounded_1 (by decide) ?_
  refine tr_iload_n C (i := 0) dX0_bounded_3 rfl rfl ?_
  refine tr_mmin C w387 (Nat.le_of_ble_eq_true rfl) (Nat.le_of_ble_eq_true rfl) dX0_bounded_4 ?_
  refine tr_mmax C w390 (Nat.le_of_ble_eq_true rfl) (Nat.le_of_ble_eq_true rfl) dX0_bounded_7 ?_
  exact tr_iretP C hr hlk dX0_bounded_10
def fX0_far (b : Nat) (a1 : Int32) (σ : Mem) : Option (Int32 × Mem) :=
  bnd (fX0_telling b 0 a1 σ) fun r1 σ1 => (
    bn1 (fX0_bounded r1 σ1) fun r2 => (
      gd (inB a1 8) (
        if (rd σ1 (b + 1) a1) = 0 then (
          some (r2, σ1)
        ) else (
          if (rd σ1 (b + 1) a1) = 1 then (
            some (r2 / 2, σ1)
          ) else (
            if (rd σ1 (b + 1) a1) = 2 then (
              bn1 (fX0_bounded (r2 + 1) σ1) fun r13 => (
                some (r13, σ1)
              )
            ) else (
              if (rd σ1 (b + 1) a1) = 3 then (
                bn1 (fX0_kin b a1 σ1) fun r11 => (
                  if r11 = 1 then (
                    some (0, σ1)
                  ) else (
                    some (r2 / 2, σ1)
                  )
                )
              ) else (
                if (rd σ1 (b + 1) a1) = 4 then (
                  bn1 (fX0_bounded (2 * (r2 + 1)) σ1) fun r10 => (
                    some (r10, σ1)
                  )
                ) else (
                  if (σ1.1 b 5) ≤ 5 then (
                    some (0, σ1)
                  ) else (
                    gd (inB a1 8) (
                      some (rd σ1 (b + 2) a1, σ1)
                    )
                  )
                )
              )
            )
          )
        )
      )
    )
  )
set_option maxHeartbeats 4000000 in
set_option maxRecDepth 100000 in
theorem kX0_far (l : Launch) (g : GG) (cs : CS) (ad : Nat → Nat) (b : Nat) (a1 : Int32) (hb : isFl b) (σ : Mem) : CtI l g cs ad (shC g) mX0_far (.code mX0_far cX0_far 3 (some .int)) { frames := 2, cells := 0, slots := 0, locals := 49 } [.ref (ad b), .int a1] σ (fX0_far b a1 σ) := by
  refine ctI_intro (own := "KinInTheHeap$Floor") (by decide +kernel) rfl [some (.ref (ad b)), some (.int a1), none] (Nat.le_of_ble_eq_true rfl) rfl ?_
  intro p e s m args below meth c A C hr hlk
  refine tr_aload_n C (i := 0) dX0_far_0 rfl rfl ?_
  refine tr_iconst C (v := 0) dX0_far_1 (by decide) ?_
  refine tr_iload_n C (i := 1) dX0_far_2 rfl rfl ?_
  refine tr_cVI C (av := [.int 0, .int a1]) (st := []) (kX0_telling l g cs ad b 0 a1 hb σ) mwX0_telling w372 (fl_0 hb) rfl ⟨rfl, rfl⟩ ⟨(Nat.le_of_ble_eq_true rfl), (Nat.le_of_ble_eq_true rfl)⟩ rfl rfl (Nat.le_of_ble_eq_true rfl) dX0_far_3 (fun r1 σ1 hr1 => ?_)
  refine tr_cSIP C (av := [.int r1]) (st := []) (kX0_bounded l g cs ad r1 σ1) mwX0_bounded w384 ⟨rfl, rfl⟩ ⟨(Nat.le_of_ble_eq_true rfl), (Nat.le_of_ble_eq_true rfl)⟩ rfl rfl (Nat.le_of_ble_eq_true rfl) dX0_far_6 (fun r2 hr2 => ?_)
  refine tr_istore_n C (i := 2) (lv' := [some (.ref (ad b)), some (.int a1), some (.int r2)]) dX0_far_9 rfl (by decide) rfl ?_
  refine tr_aload_n C (i := 0) dX0_far_10 rfl rfl ?_
  refine tr_getR C (k := 0) (ci := 0) (fl_0 hb) rfl rfl inT0 rfl (by decide) w222 dX0_far_11 ?_
  refine tr_iload_n C (i := 1) dX0_far_14 rfl rfl ?_
  refine tr_iald C (n := 8) (fl_1 hb) dX0_far_15 (fun h14 => ?_)
  refine tr_ite (fun q5 => ?_) (fun q5 => ?_)
  · refine tr_tin C (k := 0) (tgt := 52) dX0_far_16 q5 (by decide) (by decide) rfl (by decide) ?_
    refine tr_iload_n C (i := 2) dX0_far_52 rfl rfl ?_
    exact tr_iret C hr hlk dX0_far_53
  · refine tr_ite (fun q6 => ?_) (fun q6 => ?_)
    · refine tr_tin C (k := 1) (tgt := 54) dX0_far_16 q6 (by decide) (by decide) rfl (by decide) ?_
      refine tr_iload_n C (i := 2) dX0_far_54 rfl rfl ?_
      refine tr_iconst C (v := 2) dX0_far_55 (by decide) ?_
      refine tr_idivK C dX0_far_56 (by decide) ?_
      exact tr_iret C hr hlk dX0_far_57
    · refine tr_ite (fun q7 => ?_) (fun q7 => ?_)
      · refine tr_tin C (k := 2) (tgt := 58) dX0_far_16 q7 (by decide) (by decide) rfl (by decide) ?_
        refine tr_iload_n C (i := 2) dX0_far_58 rfl rfl ?_
        refine tr_iconst C (v := 1) dX0_far_59 (by decide) ?_
        refine tr_iadd C dX0_far_60 ?_
        refine tr_cSIP C (av := [.int (r2 + 1)]) (st := []) (kX0_bounded l g cs ad (r2 + 1) σ1) mwX0_bounded w384 ⟨rfl, rfl⟩ ⟨(Nat.le_of_ble_eq_true rfl), (Nat.le_of_ble_eq_true rfl)⟩ rfl rfl (Nat.le_of_ble_eq_true rfl) dX0_far_61 (fun r13 hr13 => ?_)
        exact tr_iret C hr hlk dX0_far_64
      · refine tr_ite (fun q8 => ?_) (fun q8 => ?_)
        · refine tr_tin C (k := 3) (tgt := 65) dX0_far_16 q8 (by decide) (by decide) rfl (by decide) ?_
          refine tr_aload_n C (i := 0) dX0_far_65 rfl rfl ?_
          refine tr_iload_n C (i := 1) dX0_far_66 rfl rfl ?_
          refine tr_cVIP C (av := [.int a1]) (st := []) (kX0_kin l g cs ad b a1 hb σ1) mwX0_kin w376 (fl_0 hb) rfl ⟨rfl, rfl⟩ ⟨(Nat.le_of_ble_eq_true rfl), (Nat.le_of_ble_eq_true rfl)⟩ rfl rfl (Nat.le_of_ble_eq_true rfl) dX0_far_67 (fun r11 hr11 => ?_)
          refine tr_iconst C (v := 1) dX0_far_70 (by decide) ?_
          refine tr_icmp_ne C (tgt := 78) dX0_far_71 (by decide) (fun q12 => ?_) (fun q12 => ?_)
          · refine tr_iconst C (v := 0) dX0_far_74 (by decide) ?_
            refine tr_goto C (tgt := 81) dX0_far_75 (by decide) ?_
            exact tr_iret C hr hlk dX0_far_81
          · refine tr_iload_n C (i := 2) dX0_far_78 rfl rfl ?_
            refine tr_iconst C (v := 2) dX0_far_79 (by decide) ?_
            refine tr_idivK C dX0_far_80 (by decide) ?_
            exact tr_iret C hr hlk dX0_far_81
        · refine tr_ite (fun q9 => ?_) (fun q9 => ?_)
          · refine tr_tin C (k := 4) (tgt := 82) dX0_far_16 q9 (by decide) (by decide) rfl (by decide) ?_
            refine tr_iconst C (v := 2) dX0_far_82 (by decide) ?_
            refine tr_iload_n C (i := 2) dX0_far_83 rfl rfl ?_
            refine tr_iconst C (v := 1) dX0_far_84 (by decide) ?_
            refine tr_iadd C dX0_far_85 ?_
            refine tr_imul C dX0_far_86 ?_
            refine tr_cSIP C (av := [.int (2 * (r2 + 1))]) (st := []) (kX0_bounded l g cs ad (2 * (r2 + 1)) σ1) mwX0_bounded w384 ⟨rfl, rfl⟩ ⟨(Nat.le_of_ble_eq_true rfl), (Nat.le_of_ble_eq_true rfl)⟩ rfl rfl (Nat.le_of_ble_eq_true rfl) dX0_far_87 (fun r10 hr10 => ?_)
            exact tr_iret C hr hlk dX0_far_90
          · refine tr_tout C (tgt := 91) dX0_far_16 (by have eq5 := neI (0) q5 (by decide); have eq6 := neI (1) q6 (by decide); have eq7 := neI (2) q7 (by decide); have eq8 := neI (3) q8 (by decide); have eq9 := neI (4) q9 (by decide); omega) (by decide) ?_
            refine tr_aload_n C (i := 0) dX0_far_91 rfl rfl ?_
            refine tr_getI C (k := 5) (ci := 0) (fl_0 hb) rfl rfl inT0 rfl (by decide) w232 dX0_far_92 ?_
            refine tr_iconst C (v := 5) dX0_far_95 (by decide) ?_
            refine tr_icmp_le C (tgt := 108) dX0_far_96 (by decide) (fun q4 => ?_) (fun q4 => ?_)
            · refine tr_iconst C (v := 0) dX0_far_108 (by decide) ?_
              exact tr_iret C hr hlk dX0_far_109
            · refine tr_aload_n C (i := 0) dX0_far_99 rfl rfl ?_
              refine tr_getR C (k := 1) (ci := 0) (fl_0 hb) rfl rfl inT0 rfl (by decide) w224 dX0_far_100 ?_
              refine tr_iload_n C (i := 1) dX0_far_103 rfl rfl ?_
              refine tr_iald C (n := 8) (fl_2 hb) dX0_far_104 (fun h3 => ?_)
              refine tr_goto C (tgt := 109) dX0_far_105 (by decide) ?_
              exact tr_iret C hr hlk dX0_far_109
def fX0_isFree (b : Nat) (a1 : Int32) (σ : Mem) : Option (Int32 × Mem) :=
  gd (inB a1 8) (
    if (rd σ (b + 1) a1) = 0 then (
      bnd (fX0_telling b 1 a1 σ) fun r10 σ10 => (
        if r10 = 0 then (
          some (0, σ10)
        ) else (
          some (1, σ10)
        )
      )
    ) else (
      if (rd σ (b + 1) a1) = 1 then (
        some (0, σ)
      ) else (
        if (rd σ (b + 1) a1) = 2 then (
          some (1, σ)
        ) else (
          if (rd σ (b + 1) a1) = 3 then (
            if (σ.1 b 5) = 9 then (
              some (1, σ)
            ) else (
              some (0, σ)
            )
          ) else (
            if (rd σ (b + 1) a1) = 4 then (
              if ((σ.1 b 4) - (σ.1 b 4) / 2 * 2) = 0 then (
                some (1, σ)
              ) else (
                some (0, σ)
              )
            ) else (
              bnd (fX0_telling b 1 a1 σ) fun r1 σ1 => (
                if r1 = 0 then (
                  some (1, σ1)
                ) else (
                  some (0, σ1)
                )
              )
            )
          )
        )
      )
    )
  )
set_option maxHeartbeats 4000000 in
set_option maxRecDepth 100000 in
theorem kX0_isFree (l : Launch) (g : GG) (cs : CS) (ad : Nat → Nat) (b : Nat) (a1 : Int32) (hb : isFl b) (σ : Mem) : CtI l g cs ad (shC g) mX0_isFree (.code mX0_isFree cX0_isFree 2 (some .boolean)) { frames := 2, cells := 0, slots := 0, locals := 49 } [.ref (ad b), .int a1] σ (fX0_isFree b a1 σ) := by
  refine ctI_intro (own := "KinInTheHeap$Floor") (by decide +kernel) rfl [some (.ref (ad b)), some (.int a1)] (Nat.le_of_ble_eq_true rfl) rfl ?_
  intro p e s m args below meth c A C hr hlk
  refine tr_aload_n C (i := 0) dX0_isFree_0 rfl rfl ?_
  refine tr_getR C (k := 0) (ci := 0) (fl_0 hb) rfl rfl inT0 rfl (by decide) w222 dX0_isFree_1 ?_
  refine tr_iload_n C (i := 1) dX0_isFree_4 rfl rfl ?_
  refine tr_iald C (n := 8) (fl_1 hb) dX0_isFree_5 (fun h12 => ?_)
  refine tr_ite (fun q3 => ?_) (fun q3 => ?_)
  · refine tr_tin C (k := 0) (tgt := 40) dX0_isFree_6 q3 (by decide) (by decide) rfl (by decide) ?_
    refine tr_aload_n C (i := 0) dX0_isFree_40 rfl rfl ?_
    refine tr_iconst C (v := 1) dX0_isFree_41 (by decide) ?_
    refine tr_iload_n C (i := 1) dX0_isFree_42 rfl rfl ?_
    refine tr_cVI C (av := [.int 1, .int a1]) (st := []) (kX0_telling l g cs ad b 1 a1 hb σ) mwX0_telling w372 (fl_0 hb) rfl ⟨rfl, rfl⟩ ⟨(Nat.le_of_ble_eq_true rfl), (Nat.le_of_ble_eq_true rfl)⟩ rfl rfl (Nat.le_of_ble_eq_true rfl) dX0_isFree_43 (fun r10 σ10 hr10 => ?_)
    refine tr_if_eq C (tgt := 53) dX0_isFree_46 (by decide) (fun q11 => ?_) (fun q11 => ?_)
    · refine tr_iconst C (v := 0) dX0_isFree_53 (by decide) ?_
      exact tr_zret C hr hlk rfl dX0_isFree_54
    · refine tr_iconst C (v := 1) dX0_isFree_49 (by decide) ?_
      refine tr_goto C (tgt := 54) dX0_isFree_50 (by decide) ?_
      exact tr_zret C hr hlk rfl dX0_isFree_54
  · refine tr_ite (fun q4 => ?_) (fun q4 => ?_)
    · refine tr_tin C (k := 1) (tgt := 55) dX0_isFree_6 q4 (by decide) (by decide) rfl (by decide) ?_
      refine tr_iconst C (v := 0) dX0_isFree_55 (by decide) ?_
      exact tr_zret C hr hlk rfl dX0_isFree_56
    · refine tr_ite (fun q5 => ?_) (fun q5 => ?_)
      · refine tr_tin C (k := 2) (tgt := 57) dX0_isFree_6 q5 (by decide) (by decide) rfl (by decide) ?_
        refine tr_iconst C (v := 1) dX0_isFree_57 (by decide) ?_
        exact tr_zret C hr hlk rfl dX0_isFree_58
      · refine tr_ite (fun q6 => ?_) (fun q6 => ?_)
        · refine tr_tin C (k := 3) (tgt := 59) dX0_isFree_6 q6 (by decide) (by decide) rfl (by decide) ?_
          refine tr_aload_n C (i := 0) dX0_isFree_59 rfl rfl ?_
          refine tr_getI C (k := 5) (ci := 0) (fl_0 hb) rfl rfl inT0 rfl (by decide) w232 dX0_isFree_60 ?_
          refine tr_bipush C (v := 9) dX0_isFree_63 (by decide) ?_
          refine tr_icmp_ne C (tgt := 72) dX0_isFree_65 (by decide) (fun q9 => ?_) (fun q9 => ?_)
          · refine tr_iconst C (v := 1) dX0_isFree_68 (by decide) ?_
            refine tr_goto C (tgt := 73) dX0_isFree_69 (by decide) ?_
            exact tr_zret C hr hlk rfl dX0_isFree_73
          · refine tr_iconst C (v := 0) dX0_isFree_72 (by decide) ?_
            exact tr_zret C hr hlk rfl dX0_isFree_73
        · refine tr_ite (fun q7 => ?_) (fun q7 => ?_)
          · refine tr_tin C (k := 4) (tgt := 74) dX0_isFree_6 q7 (by decide) (by decide) rfl (by decide) ?_
            refine tr_aload_n C (i := 0) dX0_isFree_74 rfl rfl ?_
            refine tr_getI C (k := 4) (ci := 0) (fl_0 hb) rfl rfl inT0 rfl (by decide) w230 dX0_isFree_75 ?_
            refine tr_iconst C (v := 2) dX0_isFree_78 (by decide) ?_
            refine tr_iremK C dX0_isFree_79 (by decide) ?_
            refine tr_if_ne C (tgt := 87) dX0_isFree_80 (by decide) (fun q8 => ?_) (fun q8 => ?_)
            · refine tr_iconst C (v := 1) dX0_isFree_83 (by decide) ?_
              refine tr_goto C (tgt := 88) dX0_isFree_84 (by decide) ?_
              exact tr_zret C hr hlk rfl dX0_isFree_88
            · refine tr_iconst C (v := 0) dX0_isFree_87 (by decide) ?_
              exact tr_zret C hr hlk rfl dX0_isFree_88
          · refine tr_tout C (tgt := 89) dX0_isFree_6 (by have eq3 := neI (0) q3 (by decide); have eq4 := neI (1) q4 (by decide); have eq5 := neI (2) q5 (by decide); have eq6 := neI (3) q6 (by decide); have eq7 := neI (4) q7 (by decide); omega) (by decide) ?_
            refine tr_aload_n C (i := 0) dX0_isFree_89 rfl rfl ?_
            refine tr_iconst C (v := 1) dX0_isFree_90 (by decide) ?_
            refine tr_iload_n C (i := 1) dX0_isFree_91 rfl rfl ?_
            refine tr_cVI C (av := [.int 1, .int a1]) (st := []) (kX0_telling l g cs ad b 1 a1 hb σ) mwX0_telling w372 (fl_0 hb) rfl ⟨rfl, rfl⟩ ⟨(Nat.le_of_ble_eq_true rfl), (Nat.le_of_ble_eq_true rfl)⟩ rfl rfl (Nat.le_of_ble_eq_true rfl) dX0_isFree_92 (fun r1 σ1 hr1 => ?_)
            refine tr_if_ne C (tgt := 102) dX0_isFree_95 (by decide) (fun q2 => ?_) (fun q2 => ?_)
            · refine tr_iconst C (v := 1) dX0_isFree_98 (by decide) ?_
              refine tr_goto C (tgt := 103) dX0_isFree_99 (by decide) ?_
              exact tr_zret C hr hlk rfl dX0_isFree_103
            · refine tr_iconst C (v := 0) dX0_isFree_102 (by decide) ?_
              exact tr_zret C hr hlk rfl dX0_isFree_103
def fJ9_floorMod_7cf53 (a1 : Int32) (a2 : Int32) (σ : Mem) : Option (Int32) :=
  gd (!(a2 == 0)) (
    if 0 ≤ (a1 ^^^ a2) then (
      some (a1 - a1 / a2 * a2)
    ) else (
      if (a1 - a1 / a2 * a2) = 0 then (
        some (a1 - a1 / a2 * a2)
      ) else (
        some ((a1 - a1 / a2 * a2) + a2)
      )
    )
  )
set_option maxHeartbeats 4000000 in
set_option maxRecDepth 100000 in
theorem kJ9_floorMod_7cf53 (l : Launch) (g : GG) (cs : CS) (ad : Nat → Nat) (a1 : Int32) (a2 : Int32) (σ : Mem) : CtI l g cs ad (shC g) mJ9_floorMod_7cf53 (.code mJ9_floorMod_7cf53 cJ9_floorMod_7cf53 3 (some .int)) { frames := 0, cells := 0, slots := 0, locals := 0 } [.int a1, .int a2] σ (pur (fJ9_floorMod_7cf53 a1 a2 σ) σ) := by
  refine ctIP_intro (own := "java/lang/Math") (by decide +kernel) rfl [some (.int a1), some (.int a2), none] (Nat.le_of_ble_eq_true rfl) rfl ?_
  intro p e s m args below meth c A C hr hlk
  refine tr_iload_n C (i := 0) dJ9_floorMod_7cf53_0 rfl rfl ?_
  refine tr_iload_n C (i := 1) dJ9_floorMod_7cf53_1 rfl rfl ?_
  refine tr_irem C dJ9_floorMod_7cf53_2 (fun h3 => ?_)
  refine tr_istore_n C (i := 2) (lv' := [some (.int a1), some (.int a2), some (.int (a1 - a1 / a2 * a2))]) dJ9_floorMod_7cf53_3 rfl (by decide) rfl ?_
  refine tr_iload_n C (i := 0) dJ9_floorMod_7cf53_4 rfl rfl ?_
  refine tr_iload_n C (i := 1) dJ9_floorMod_7cf53_5 rfl rfl ?_
  refine tr_ixor C dJ9_floorMod_7cf53_6 ?_
  refine tr_if_ge C (tgt := 18) dJ9_floorMod_7cf53_7 (by decide) (fun q2 => ?_) (fun q2 => ?_)
  · refine tr_iload_n C (i := 2) dJ9_floorMod_7cf53_18 rfl rfl ?_
    exact tr_iretP C hr hlk dJ9_floorMod_7cf53_19
  · refine tr_iload_n C (i := 2) dJ9_floorMod_7cf53_10 rfl rfl ?_
    refine tr_if_eq C (tgt := 18) dJ9_floorMod_7cf53_11 (by decide) (fun q1 => ?_) (fun q1 => ?_)
    · refine tr_iload_n C (i := 2) dJ9_floorMod_7cf53_18 rfl rfl ?_
      exact tr_iretP C hr hlk dJ9_floorMod_7cf53_19
    · refine tr_iload_n C (i := 2) dJ9_floorMod_7cf53_14 rfl rfl ?_
      refine tr_iload_n C (i := 1) dJ9_floorMod_7cf53_15 rfl rfl ?_
      refine tr_iadd C dJ9_floorMod_7cf53_16 ?_
      exact tr_iretP C hr hlk dJ9_floorMod_7cf53_17
def fX0_otherWay (a1 : Int32) (σ : Mem) : Option (Int32) :=
  if a1 = 0 then (
    some 0
  ) else (
    if (a1 - a1 / 2 * 2) = 1 then (
      some (a1 + 1)
    ) else (
      some (a1 - 1)
    )
  )
set_option maxHeartbeats 4000000 in
set_option maxRecDepth 100000 in
theorem kX0_otherWay (l : Launch) (g : GG) (cs : CS) (ad : Nat → Nat) (a1 : Int32) (σ : Mem) : CtI l g cs ad (shC g) mX0_otherWay (.code mX0_otherWay cX0_otherWay 1 (some .int)) { frames := 0, cells := 0, slots := 0, locals := 0 } [.int a1] σ (pur (fX0_otherWay a1 σ) σ) := by
  refine ctIP_intro (own := "KinInTheHeap$Floor") (by decide +kernel) rfl [some (.int a1)] (Nat.le_of_ble_eq_true rfl) rfl ?_
  intro p e s m args below meth c A C hr hlk
  refine tr_iload_n C (i := 0) dX0_otherWay_0 rfl rfl ?_
  refine tr_if_ne C (tgt := 6) dX0_otherWay_1 (by decide) (fun q2 => ?_) (fun q2 => ?_)
  · refine tr_iconst C (v := 0) dX0_otherWay_4 (by decide) ?_
    exact tr_iretP C hr hlk dX0_otherWay_5
  · refine tr_iload_n C (i := 0) dX0_otherWay_6 rfl rfl ?_
    refine tr_iconst C (v := 2) dX0_otherWay_7 (by decide) ?_
    refine tr_iremK C dX0_otherWay_8 (by decide) ?_
    refine tr_iconst C (v := 1) dX0_otherWay_9 (by decide) ?_
    refine tr_icmp_ne C (tgt := 19) dX0_otherWay_10 (by decide) (fun q1 => ?_) (fun q1 => ?_)
    · refine tr_iload_n C (i := 0) dX0_otherWay_13 rfl rfl ?_
      refine tr_iconst C (v := 1) dX0_otherWay_14 (by decide) ?_
      refine tr_iadd C dX0_otherWay_15 ?_
      refine tr_goto C (tgt := 22) dX0_otherWay_16 (by decide) ?_
      exact tr_iretP C hr hlk dX0_otherWay_22
    · refine tr_iload_n C (i := 0) dX0_otherWay_19 rfl rfl ?_
      refine tr_iconst C (v := 1) dX0_otherWay_20 (by decide) ?_
      refine tr_isub C dX0_otherWay_21 ?_
      exact tr_iretP C hr hlk dX0_otherWay_22
def fX0_way (b : Nat) (a1 : Int32) (σ : Mem) : Option (Int32 × Mem) :=
  bnd (fX0_telling b 2 a1 σ) fun r1 σ1 => (
    bn1 (fJ9_floorMod_7cf53 r1 5 σ1) fun r2 => (
      gd (inB a1 8) (
        if (rd σ1 (b + 1) a1) = 0 then (
          some (r2, σ1)
        ) else (
          if (rd σ1 (b + 1) a1) = 1 then (
            some (0, σ1)
          ) else (
            if (rd σ1 (b + 1) a1) = 2 then (
              some (r2, σ1)
            ) else (
              if (rd σ1 (b + 1) a1) = 3 then (
                some (0, σ1)
              ) else (
                if (rd σ1 (b + 1) a1) = 4 then (
                  bn1 (fX0_otherWay r2 σ1) fun r10 => (
                    some (r10, σ1)
                  )
                ) else (
                  gd (inB a1 8) (
                    if (rd σ1 (b + 2) a1) ≤ 4 then (
                      some (0, σ1)
                    ) else (
                      some (r2, σ1)
                    )
                  )
                )
              )
            )
          )
        )
      )
    )
  )
set_option maxHeartbeats 4000000 in
set_option maxRecDepth 100000 in
theorem kX0_way (l : Launch) (g : GG) (cs : CS) (ad : Nat → Nat) (b : Nat) (a1 : Int32) (hb : isFl b) (σ : Mem) : CtI l g cs ad (shC g) mX0_way (.code mX0_way cX0_way 3 (some .int)) { frames := 2, cells := 0, slots := 0, locals := 49 } [.ref (ad b), .int a1] σ (fX0_way b a1 σ) := by
  refine ctI_intro (own := "KinInTheHeap$Floor") (by decide +kernel) rfl [some (.ref (ad b)), some (.int a1), none] (Nat.le_of_ble_eq_true rfl) rfl ?_
  intro p e s m args below meth c A C hr hlk
  refine tr_aload_n C (i := 0) dX0_way_0 rfl rfl ?_
  refine tr_iconst C (v := 2) dX0_way_1 (by decide) ?_
  refine tr_iload_n C (i := 1) dX0_way_2 rfl rfl ?_
  refine tr_cVI C (av := [.int 2, .int a1]) (st := []) (kX0_telling l g cs ad b 2 a1 hb σ) mwX0_telling w372 (fl_0 hb) rfl ⟨rfl, rfl⟩ ⟨(Nat.le_of_ble_eq_true rfl), (Nat.le_of_ble_eq_true rfl)⟩ rfl rfl (Nat.le_of_ble_eq_true rfl) dX0_way_3 (fun r1 σ1 hr1 => ?_)
  refine tr_iconst C (v := 5) dX0_way_6 (by decide) ?_
  refine tr_cSIP C (av := [.int r1, .int 5]) (st := []) (kJ9_floorMod_7cf53 l g cs ad r1 5 σ1) mwJ9_floorMod_7cf53 w401 ⟨rfl, rfl⟩ ⟨(Nat.le_of_ble_eq_true rfl), (Nat.le_of_ble_eq_true rfl)⟩ rfl rfl (Nat.le_of_ble_eq_true rfl) dX0_way_7 (fun r2 hr2 => ?_)
  refine tr_istore_n C (i := 2) (lv' := [some (.ref (ad b)), some (.int a1), some (.int r2)]) dX0_way_10 rfl (by decide) rfl ?_
  refine tr_aload_n C (i := 0) dX0_way_11 rfl rfl ?_
  refine tr_getR C (k := 0) (ci := 0) (fl_0 hb) rfl rfl inT0 rfl (by decide) w222 dX0_way_12 ?_
  refine tr_iload_n C (i := 1) dX0_way_15 rfl rfl ?_
  refine tr_iald C (n := 8) (fl_1 hb) dX0_way_16 (fun h11 => ?_)
  refine tr_ite (fun q5 => ?_) (fun q5 => ?_)
  · refine tr_tin C (k := 0) (tgt := 52) dX0_way_17 q5 (by decide) (by decide) rfl (by decide) ?_
    refine tr_iload_n C (i := 2) dX0_way_52 rfl rfl ?_
    exact tr_iret C hr hlk dX0_way_53
  · refine tr_ite (fun q6 => ?_) (fun q6 => ?_)
    · refine tr_tin C (k := 1) (tgt := 54) dX0_way_17 q6 (by decide) (by decide) rfl (by decide) ?_
      refine tr_iconst C (v := 0) dX0_way_54 (by decide) ?_
      exact tr_iret C hr hlk dX0_way_55
    · refine tr_ite (fun q7 => ?_) (fun q7 => ?_)
      · refine tr_tin C (k := 2) (tgt := 52) dX0_way_17 q7 (by decide) (by decide) rfl (by decide) ?_
        refine tr_iload_n C (i := 2) dX0_way_52 rfl rfl ?_
        exact tr_iret C hr hlk dX0_way_53
      · refine tr_ite (fun q8 => ?_) (fun q8 => ?_)
        · refine tr_tin C (k := 3) (tgt := 54) dX0_way_17 q8 (by decide) (by decide) rfl (by decide) ?_
          refine tr_iconst C (v := 0) dX0_way_54 (by decide) ?_
          exact tr_iret C hr hlk dX0_way_55
        · refine tr_ite (fun q9 => ?_) (fun q9 => ?_)
          · refine tr_tin C (k := 4) (tgt := 56) dX0_way_17 q9 (by decide) (by decide) rfl (by decide) ?_
            refine tr_iload_n C (i := 2) dX0_way_56 rfl rfl ?_
            refine tr_cSIP C (av := [.int r2]) (st := []) (kX0_otherWay l g cs ad r2 σ1) mwX0_otherWay w404 ⟨rfl, rfl⟩ ⟨(Nat.le_of_ble_eq_true rfl), (Nat.le_of_ble_eq_true rfl)⟩ rfl rfl (Nat.le_of_ble_eq_true rfl) dX0_way_57 (fun r10 hr10 => ?_)
            exact tr_iret C hr hlk dX0_way_60
          · refine tr_tout C (tgt := 61) dX0_way_17 (by have eq5 := neI (0) q5 (by decide); have eq6 := neI (1) q6 (by decide); have eq7 := neI (2) q7 (by decide); have eq8 := neI (3) q8 (by decide); have eq9 := neI (4) q9 (by decide); omega) (by decide) ?_
            refine tr_aload_n C (i := 0) dX0_way_61 rfl rfl ?_
            refine tr_getR C (k := 1) (ci := 0) (fl_0 hb) rfl rfl inT0 rfl (by decide) w224 dX0_way_62 ?_
            refine tr_iload_n C (i := 1) dX0_way_65 rfl rfl ?_
            refine tr_iald C (n := 8) (fl_2 hb) dX0_way_66 (fun h4 => ?_)
            refine tr_iconst C (v := 4) dX0_way_67 (by decide) ?_
            refine tr_icmp_le C (tgt := 75) dX0_way_68 (by decide) (fun q3 => ?_) (fun q3 => ?_)
            · refine tr_iconst C (v := 0) dX0_way_75 (by decide) ?_
              exact tr_iret C hr hlk dX0_way_76
            · refine tr_iload_n C (i := 2) dX0_way_71 rfl rfl ?_
              refine tr_goto C (tgt := 76) dX0_way_72 (by decide) ?_
              exact tr_iret C hr hlk dX0_way_76
def fX0_isInLine (a1 : Int32) (a2 : Int32) (σ : Mem) : Option (Int32) :=
  if a1 = (-1) then (
    some 0
  ) else (
    if 12 ≤ a2 then (
      if (a1 - a1 / 6 * 6) = ((a2 - 12) / 2) then (
        some 1
      ) else (
        some 0
      )
    ) else (
      if (a1 / 6) = (a2 / 2) then (
        some 1
      ) else (
        some 0
      )
    )
  )
set_option maxHeartbeats 4000000 in
set_option maxRecDepth 100000 in
theorem kX0_isInLine (l : Launch) (g : GG) (cs : CS) (ad : Nat → Nat) (a1 : Int32) (a2 : Int32) (σ : Mem) : CtI l g cs ad (shC g) mX0_isInLine (.code mX0_isInLine cX0_isInLine 2 (some .boolean)) { frames := 0, cells := 0, slots := 0, locals := 0 } [.int a1, .int a2] σ (pur (fX0_isInLine a1 a2 σ) σ) := by
  refine ctIP_intro (own := "KinInTheHeap$Floor") (by decide +kernel) rfl [some (.int a1), some (.int a2)] (Nat.le_of_ble_eq_true rfl) rfl ?_
  intro p e s m args below meth c A C hr hlk
  refine tr_iload_n C (i := 0) dX0_isInLine_0 rfl rfl ?_
  refine tr_iconst C (v := -1) dX0_isInLine_1 (by decide) ?_
  refine tr_icmp_ne C (tgt := 7) dX0_isInLine_2 (by decide) (fun q4 => ?_) (fun q4 => ?_)
  · refine tr_iconst C (v := 0) dX0_isInLine_5 (by decide) ?_
    exact tr_zretP C hr hlk rfl dX0_isInLine_6
  · refine tr_iload_n C (i := 1) dX0_isInLine_7 rfl rfl ?_
    refine tr_bipush C (v := 12) dX0_isInLine_8 (by decide) ?_
    refine tr_icmp_ge C (tgt := 31) dX0_isInLine_10 (by decide) (fun q3 => ?_) (fun q3 => ?_)
    · refine tr_iload_n C (i := 0) dX0_isInLine_31 rfl rfl ?_
      refine tr_bipush C (v := 6) dX0_isInLine_32 (by decide) ?_
      refine tr_iremK C dX0_isInLine_34 (by decide) ?_
      refine tr_iload_n C (i := 1) dX0_isInLine_35 rfl rfl ?_
      refine tr_bipush C (v := 12) dX0_isInLine_36 (by decide) ?_
      refine tr_isub C dX0_isInLine_38 ?_
      refine tr_iconst C (v := 2) dX0_isInLine_39 (by decide) ?_
      refine tr_idivK C dX0_isInLine_40 (by decide) ?_
      refine tr_icmp_ne C (tgt := 48) dX0_isInLine_41 (by decide) (fun q1 => ?_) (fun q1 => ?_)
      · refine tr_iconst C (v := 1) dX0_isInLine_44 (by decide) ?_
        refine tr_goto C (tgt := 49) dX0_isInLine_45 (by decide) ?_
        exact tr_zretP C hr hlk rfl dX0_isInLine_49
      · refine tr_iconst C (v := 0) dX0_isInLine_48 (by decide) ?_
        exact tr_zretP C hr hlk rfl dX0_isInLine_49
    · refine tr_iload_n C (i := 0) dX0_isInLine_13 rfl rfl ?_
      refine tr_bipush C (v := 6) dX0_isInLine_14 (by decide) ?_
      refine tr_idivK C dX0_isInLine_16 (by decide) ?_
      refine tr_iload_n C (i := 1) dX0_isInLine_17 rfl rfl ?_
      refine tr_iconst C (v := 2) dX0_isInLine_18 (by decide) ?_
      refine tr_idivK C dX0_isInLine_19 (by decide) ?_
      refine tr_icmp_ne C (tgt := 27) dX0_isInLine_20 (by decide) (fun q2 => ?_) (fun q2 => ?_)
      · refine tr_iconst C (v := 1) dX0_isInLine_23 (by decide) ?_
        refine tr_goto C (tgt := 49) dX0_isInLine_24 (by decide) ?_
        exact tr_zretP C hr hlk rfl dX0_isInLine_49
      · refine tr_iconst C (v := 0) dX0_isInLine_27 (by decide) ?_
        refine tr_goto C (tgt := 49) dX0_isInLine_28 (by decide) ?_
        exact tr_zretP C hr hlk rfl dX0_isInLine_49
def fX0_stepped (a1 : Int32) (a2 : Int32) (σ : Mem) : Option (Int32) :=
  if a2 = 1 then (
    if (a1 - a1 / 6 * 6) = 5 then (
      some (-1)
    ) else (
      some (a1 + 1)
    )
  ) else (
    if a2 = 2 then (
      if (a1 - a1 / 6 * 6) = 0 then (
        some (-1)
      ) else (
        some (a1 - 1)
      )
    ) else (
      if a2 = 3 then (
        if (a1 / 6) = 5 then (
          some (-1)
        ) else (
          some (a1 + 6)
        )
      ) else (
        if a2 = 4 then (
          if (a1 / 6) = 0 then (
            some (-1)
          ) else (
            some (a1 - 6)
          )
        ) else (
          some a1
        )
      )
    )
  )
set_option maxHeartbeats 4000000 in
set_option maxRecDepth 100000 in
theorem kX0_stepped (l : Launch) (g : GG) (cs : CS) (ad : Nat → Nat) (a1 : Int32) (a2 : Int32) (σ : Mem) : CtI l g cs ad (shC g) mX0_stepped (.code mX0_stepped cX0_stepped 2 (some .int)) { frames := 0, cells := 0, slots := 0, locals := 0 } [.int a1, .int a2] σ (pur (fX0_stepped a1 a2 σ) σ) := by
  refine ctIP_intro (own := "KinInTheHeap$Floor") (by decide +kernel) rfl [some (.int a1), some (.int a2)] (Nat.le_of_ble_eq_true rfl) rfl ?_
  intro p e s m args below meth c A C hr hlk
  refine tr_iload_n C (i := 1) dX0_stepped_0 rfl rfl ?_
  refine tr_ite (fun q1 => ?_) (fun q1 => ?_)
  · refine tr_tin C (k := 1) (tgt := 32) dX0_stepped_1 q1 (by decide) (by decide) rfl (by decide) ?_
    refine tr_iload_n C (i := 0) dX0_stepped_32 rfl rfl ?_
    refine tr_bipush C (v := 6) dX0_stepped_33 (by decide) ?_
    refine tr_iremK C dX0_stepped_35 (by decide) ?_
    refine tr_iconst C (v := 5) dX0_stepped_36 (by decide) ?_
    refine tr_icmp_ne C (tgt := 44) dX0_stepped_37 (by decide) (fun q8 => ?_) (fun q8 => ?_)
    · refine tr_iconst C (v := -1) dX0_stepped_40 (by decide) ?_
      refine tr_goto C (tgt := 47) dX0_stepped_41 (by decide) ?_
      exact tr_iretP C hr hlk dX0_stepped_47
    · refine tr_iload_n C (i := 0) dX0_stepped_44 rfl rfl ?_
      refine tr_iconst C (v := 1) dX0_stepped_45 (by decide) ?_
      refine tr_iadd C dX0_stepped_46 ?_
      exact tr_iretP C hr hlk dX0_stepped_47
  · refine tr_ite (fun q2 => ?_) (fun q2 => ?_)
    · refine tr_tin C (k := 2) (tgt := 48) dX0_stepped_1 q2 (by decide) (by decide) rfl (by decide) ?_
      refine tr_iload_n C (i := 0) dX0_stepped_48 rfl rfl ?_
      refine tr_bipush C (v := 6) dX0_stepped_49 (by decide) ?_
      refine tr_iremK C dX0_stepped_51 (by decide) ?_
      refine tr_if_ne C (tgt := 59) dX0_stepped_52 (by decide) (fun q7 => ?_) (fun q7 => ?_)
      · refine tr_iconst C (v := -1) dX0_stepped_55 (by decide) ?_
        refine tr_goto C (tgt := 62) dX0_stepped_56 (by decide) ?_
        exact tr_iretP C hr hlk dX0_stepped_62
      · refine tr_iload_n C (i := 0) dX0_stepped_59 rfl rfl ?_
        refine tr_iconst C (v := 1) dX0_stepped_60 (by decide) ?_
        refine tr_isub C dX0_stepped_61 ?_
        exact tr_iretP C hr hlk dX0_stepped_62
    · refine tr_ite (fun q3 => ?_) (fun q3 => ?_)
      · refine tr_tin C (k := 3) (tgt := 63) dX0_stepped_1 q3 (by decide) (by decide) rfl (by decide) ?_
        refine tr_iload_n C (i := 0) dX0_stepped_63 rfl rfl ?_
        refine tr_bipush C (v := 6) dX0_stepped_64 (by decide) ?_
        refine tr_idivK C dX0_stepped_66 (by decide) ?_
        refine tr_iconst C (v := 5) dX0_stepped_67 (by decide) ?_
        refine tr_icmp_ne C (tgt := 75) dX0_stepped_68 (by decide) (fun q6 => ?_) (fun q6 => ?_)
        · refine tr_iconst C (v := -1) dX0_stepped_71 (by decide) ?_
          refine tr_goto C (tgt := 79) dX0_stepped_72 (by decide) ?_
          exact tr_iretP C hr hlk dX0_stepped_79
        · refine tr_iload_n C (i := 0) dX0_stepped_75 rfl rfl ?_
          refine tr_bipush C (v := 6) dX0_stepped_76 (by decide) ?_
          refine tr_iadd C dX0_stepped_78 ?_
          exact tr_iretP C hr hlk dX0_stepped_79
      · refine tr_ite (fun q4 => ?_) (fun q4 => ?_)
        · refine tr_tin C (k := 4) (tgt := 80) dX0_stepped_1 q4 (by decide) (by decide) rfl (by decide) ?_
          refine tr_iload_n C (i := 0) dX0_stepped_80 rfl rfl ?_
          refine tr_bipush C (v := 6) dX0_stepped_81 (by decide) ?_
          refine tr_idivK C dX0_stepped_83 (by decide) ?_
          refine tr_if_ne C (tgt := 91) dX0_stepped_84 (by decide) (fun q5 => ?_) (fun q5 => ?_)
          · refine tr_iconst C (v := -1) dX0_stepped_87 (by decide) ?_
            refine tr_goto C (tgt := 95) dX0_stepped_88 (by decide) ?_
            exact tr_iretP C hr hlk dX0_stepped_95
          · refine tr_iload_n C (i := 0) dX0_stepped_91 rfl rfl ?_
            refine tr_bipush C (v := 6) dX0_stepped_92 (by decide) ?_
            refine tr_isub C dX0_stepped_94 ?_
            exact tr_iretP C hr hlk dX0_stepped_95
        · refine tr_tout C (tgt := 96) dX0_stepped_1 (by have eq1 := neI (1) q1 (by decide); have eq2 := neI (2) q2 (by decide); have eq3 := neI (3) q3 (by decide); have eq4 := neI (4) q4 (by decide); omega) (by decide) ?_
          refine tr_iload_n C (i := 0) dX0_stepped_96 rfl rfl ?_
          exact tr_iretP C hr hlk dX0_stepped_97
def fX0_swept_L6 (b : Nat) (a1 : Int32) (a2 : Int32) (a3 : Int32) (σ : Mem) (ih6 : Int32 × Int32 → Option (Int32)) : Int32 × Int32 → Option (Int32) := fun v => match v with
  | (y4_6, y5_6) =>
    if a3 ≤ y5_6 then (
      some y4_6
    ) else (
      bn1 (fX0_stepped y4_6 a2 σ) fun r1 => (
        if r1 = (-1) then (
          some r1
        ) else (
          bn1 (fX0_isCracked b r1 σ) fun r2 => (
            if r2 = 0 then (
              ih6 (r1, y5_6 + 1)
            ) else (
              some r1
            )
          )
        )
      )
    )
def fX0_swept (b : Nat) (a1 : Int32) (a2 : Int32) (a3 : Int32) (σ : Mem) : Option (Int32) :=
  loopN (fX0_swept_L6 b a1 a2 a3 σ) 1000 (a1, 0)
set_option maxHeartbeats 4000000 in
set_option maxRecDepth 100000 in
theorem kX0_swept (l : Launch) (g : GG) (cs : CS) (ad : Nat → Nat) (b : Nat) (a1 : Int32) (a2 : Int32) (a3 : Int32) (hb : isFl b) (σ : Mem) : CtI l g cs ad (shC g) mX0_swept (.code mX0_swept cX0_swept 6 (some .int)) { frames := 1, cells := 0, slots := 0, locals := 21 } [.ref (ad b), .int a1, .int a2, .int a3] σ (pur (fX0_swept b a1 a2 a3 σ) σ) := by
  refine ctIP_intro (own := "KinInTheHeap$Floor") (by decide +kernel) rfl [some (.ref (ad b)), some (.int a1), some (.int a2), some (.int a3), none, none] (Nat.le_of_ble_eq_true rfl) rfl ?_
  intro p e s m args below meth c A C hr hlk
  refine tr_iload_n C (i := 1) dX0_swept_0 rfl rfl ?_
  refine tr_istore C (i := 4) (lv' := [some (.ref (ad b)), some (.int a1), some (.int a2), some (.int a3), some (.int a1), none]) dX0_swept_1 (by decide) rfl ?_
  refine tr_iconst C (v := 0) dX0_swept_3 (by decide) ?_
  refine tr_istore C (i := 5) (lv' := [some (.ref (ad b)), some (.int a1), some (.int a2), some (.int a3), some (.int a1), some (.int 0)]) dX0_swept_4 (by decide) rfl ?_
  refine tr_mask [true, false, true, true, true, true] rfl ?_
  refine tr_loop (b := fX0_swept_L6 b a1 a2 a3 σ) (sg := fun v => σ) (lw := fun v => [some (.ref (ad b)), none, some (.int a2), some (.int a3), some (.int v.1), some (.int v.2)]) (sw := fun v => []) (fun ih6 IH6 v => ?_) 1000 (a1, 0)
  obtain ⟨y4_6, y5_6⟩ := v
  refine tr_st (σ' := σ) (lv' := [some (.ref (ad b)), none, some (.int a2), some (.int a3), some (.int y4_6), some (.int y5_6)]) (st' := []) rfl rfl rfl ?_
  refine tr_iload C (i := 5) dX0_swept_6 rfl ?_
  refine tr_iload_n C (i := 3) dX0_swept_8 rfl rfl ?_
  refine tr_icmp_ge C (tgt := 44) dX0_swept_9 (by decide) (fun q5 => ?_) (fun q5 => ?_)
  · refine tr_iload C (i := 4) dX0_swept_44 rfl ?_
    exact tr_iretP C hr hlk dX0_swept_46
  · refine tr_iload C (i := 4) dX0_swept_12 rfl ?_
    refine tr_iload_n C (i := 2) dX0_swept_14 rfl rfl ?_
    refine tr_cSIP C (av := [.int y4_6, .int a2]) (st := []) (kX0_stepped l g cs ad y4_6 a2 σ) mwX0_stepped w653 ⟨rfl, rfl⟩ ⟨(Nat.le_of_ble_eq_true rfl), (Nat.le_of_ble_eq_true rfl)⟩ rfl rfl (Nat.le_of_ble_eq_true rfl) dX0_swept_15 (fun r1 hr1 => ?_)
    refine tr_istore C (i := 4) (lv' := [some (.ref (ad b)), none, some (.int a2), some (.int a3), some (.int r1), some (.int y5_6)]) dX0_swept_18 (by decide) rfl ?_
    refine tr_iload C (i := 4) dX0_swept_20 rfl ?_
    refine tr_iconst C (v := -1) dX0_swept_22 (by decide) ?_
    refine tr_icmp_eq C (tgt := 35) dX0_swept_23 (by decide) (fun q4 => ?_) (fun q4 => ?_)
    · refine tr_iload C (i := 4) dX0_swept_35 rfl ?_
      exact tr_iretP C hr hlk dX0_swept_37
    · refine tr_aload_n C (i := 0) dX0_swept_26 rfl rfl ?_
      refine tr_iload C (i := 4) dX0_swept_27 rfl ?_
      refine tr_cVIP C (av := [.int r1]) (st := []) (kX0_isCracked l g cs ad b r1 hb σ) mwX0_isCracked w646 (fl_0 hb) rfl ⟨rfl, rfl⟩ ⟨(Nat.le_of_ble_eq_true rfl), (Nat.le_of_ble_eq_true rfl)⟩ rfl rfl (Nat.le_of_ble_eq_true rfl) dX0_swept_29 (fun r2 hr2 => ?_)
      refine tr_if_eq C (tgt := 38) dX0_swept_32 (by decide) (fun q3 => ?_) (fun q3 => ?_)
      · refine tr_iinc C (i := 5) (d := 1) (lv' := [some (.ref (ad b)), none, some (.int a2), some (.int a3), some (.int r1), some (.int (y5_6 + 1))]) dX0_swept_38 rfl (by decide) (by decide) rfl ?_
        refine tr_goto C (tgt := 6) dX0_swept_41 (by decide) ?_
        exact IH6 (r1, y5_6 + 1)
      · refine tr_iload C (i := 4) dX0_swept_35 rfl ?_
        exact tr_iretP C hr hlk dX0_swept_37
def fX0_settle_L4 (b : Nat) (ih4 : Mem × Int32 × Int32 → Option (Int32 × Mem)) : Mem × Int32 × Int32 → Option (Int32 × Mem) := fun v => match v with
  | (σ4, y1_4, y2_4) =>
    if (σ4.1 b 7) ≤ y2_4 then (
      some (y1_4, σ4)
    ) else (
      gd (inB y2_4 8) (
        if (rd σ4 (b + 3) y2_4) = (-1) then (
          gd (inB y2_4 8) (
            gd (inB y2_4 8) (stp (wr σ4 (b + 3) y2_4 (rd σ4 (b + 4) y2_4)) fun σw1 => (
              ih4 (σw1, y1_4, y2_4 + 1)
            ))
          )
        ) else (
          gd (inB y2_4 8) (
            if (rd σ4 (b + 4) y2_4) = (-1) then (
              gd (inB y2_4 8) (
                gd (inB y2_4 8) (stp (wr σ4 (b + 3) y2_4 (rd σ4 (b + 4) y2_4)) fun σw7 => (
                  ih4 (σw7, y1_4 + 1, y2_4 + 1)
                ))
              )
            ) else (
              gd (inB y2_4 8) (
                gd (inB y2_4 8) (stp (wr σ4 (b + 3) y2_4 (rd σ4 (b + 4) y2_4)) fun σw4 => (
                  ih4 (σw4, y1_4, y2_4 + 1)
                ))
              )
            )
          )
        )
      )
    )
def fX0_settle (b : Nat) (σ : Mem) : Option (Int32 × Mem) :=
  loopN (fX0_settle_L4 b) 1000 (σ, 0, 0)
set_option maxHeartbeats 4000000 in
set_option maxRecDepth 100000 in
theorem kX0_settle (l : Launch) (g : GG) (cs : CS) (ad : Nat → Nat) (b : Nat) (hb : isFl b) (σ : Mem) : CtI l g cs ad (shC g) mX0_settle (.code mX0_settle cX0_settle 3 (some .int)) { frames := 0, cells := 0, slots := 0, locals := 0 } [.ref (ad b)] σ (fX0_settle b σ) := by
  refine ctI_intro (own := "KinInTheHeap$Floor") (by decide +kernel) rfl [some (.ref (ad b)), none, none] (Nat.le_of_ble_eq_true rfl) rfl ?_
  intro p e s m args below meth c A C hr hlk
  refine tr_iconst C (v := 0) dX0_settle_0 (by decide) ?_
  refine tr_istore_n C (i := 1) (lv' := [some (.ref (ad b)), some (.int 0), none]) dX0_settle_1 rfl (by decide) rfl ?_
  refine tr_iconst C (v := 0) dX0_settle_2 (by decide) ?_
  refine tr_istore_n C (i := 2) (lv' := [some (.ref (ad b)), some (.int 0), some (.int 0)]) dX0_settle_3 rfl (by decide) rfl ?_
  refine tr_loop (b := fX0_settle_L4 b) (sg := fun v => v.1) (lw := fun v => [some (.ref (ad b)), some (.int v.2.1), some (.int v.2.2)]) (sw := fun v => []) (fun ih4 IH4 v => ?_) 1000 (σ, 0, 0)
  obtain ⟨σ4, y1_4, y2_4⟩ := v
  refine tr_st (σ' := σ4) (lv' := [some (.ref (ad b)), some (.int y1_4), some (.int y2_4)]) (st' := []) rfl rfl rfl ?_
  refine tr_iload_n C (i := 2) dX0_settle_4 rfl rfl ?_
  refine tr_aload_n C (i := 0) dX0_settle_5 rfl rfl ?_
  refine tr_getI C (k := 7) (ci := 0) (fl_0 hb) rfl rfl inT0 rfl (by decide) w236 dX0_settle_6 ?_
  refine tr_icmp_ge C (tgt := 53) dX0_settle_9 (by decide) (fun q14 => ?_) (fun q14 => ?_)
  · refine tr_iload_n C (i := 1) dX0_settle_53 rfl rfl ?_
    exact tr_iret C hr hlk dX0_settle_54
  · refine tr_aload_n C (i := 0) dX0_settle_12 rfl rfl ?_
    refine tr_getR C (k := 2) (ci := 0) (fl_0 hb) rfl rfl inT0 rfl (by decide) w226 dX0_settle_13 ?_
    refine tr_iload_n C (i := 2) dX0_settle_16 rfl rfl ?_
    refine tr_iald C (n := 8) (fl_3 hb) dX0_settle_17 (fun h13 => ?_)
    refine tr_iconst C (v := -1) dX0_settle_18 (by decide) ?_
    refine tr_icmp_eq C (tgt := 35) dX0_settle_19 (by decide) (fun q12 => ?_) (fun q12 => ?_)
    · refine tr_aload_n C (i := 0) dX0_settle_35 rfl rfl ?_
      refine tr_getR C (k := 2) (ci := 0) (fl_0 hb) rfl rfl inT0 rfl (by decide) w226 dX0_settle_36 ?_
      refine tr_iload_n C (i := 2) dX0_settle_39 rfl rfl ?_
      refine tr_aload_n C (i := 0) dX0_settle_40 rfl rfl ?_
      refine tr_getR C (k := 9) (ci := 0) (fl_0 hb) rfl rfl inT0 rfl (by decide) w239 dX0_settle_41 ?_
      refine tr_iload_n C (i := 2) dX0_settle_44 rfl rfl ?_
      refine tr_iald C (n := 8) (fl_4 hb) dX0_settle_45 (fun h3 => ?_)
      refine tr_iast C (n := 8) (σ' := wr σ4 (b + 3) y2_4 (rd σ4 (b + 4) y2_4)) (fl_3 hb) dX0_settle_46 rfl (fun h2 => ?_)
      refine tr_stp (fun σw1 eσw1 => ?_)
      refine tr_iinc C (i := 2) (d := 1) (lv' := [some (.ref (ad b)), some (.int y1_4), some (.int (y2_4 + 1))]) dX0_settle_47 rfl (by decide) (by decide) rfl ?_
      refine tr_goto C (tgt := 4) dX0_settle_50 (by decide) ?_
      exact IH4 (σw1, y1_4, y2_4 + 1)
    · refine tr_aload_n C (i := 0) dX0_settle_22 rfl rfl ?_
      refine tr_getR C (k := 9) (ci := 0) (fl_0 hb) rfl rfl inT0 rfl (by decide) w239 dX0_settle_23 ?_
      refine tr_iload_n C (i := 2) dX0_settle_26 rfl rfl ?_
      refine tr_iald C (n := 8) (fl_4 hb) dX0_settle_27 (fun h11 => ?_)
      refine tr_iconst C (v := -1) dX0_settle_28 (by decide) ?_
      refine tr_icmp_ne C (tgt := 35) dX0_settle_29 (by decide) (fun q10 => ?_) (fun q10 => ?_)
      · refine tr_iinc C (i := 1) (d := 1) (lv' := [some (.ref (ad b)), some (.int (y1_4 + 1)), some (.int y2_4)]) dX0_settle_32 rfl (by decide) (by decide) rfl ?_
        refine tr_aload_n C (i := 0) dX0_settle_35 rfl rfl ?_
        refine tr_getR C (k := 2) (ci := 0) (fl_0 hb) rfl rfl inT0 rfl (by decide) w226 dX0_settle_36 ?_
        refine tr_iload_n C (i := 2) dX0_settle_39 rfl rfl ?_
        refine tr_aload_n C (i := 0) dX0_settle_40 rfl rfl ?_
        refine tr_getR C (k := 9) (ci := 0) (fl_0 hb) rfl rfl inT0 rfl (by decide) w239 dX0_settle_41 ?_
        refine tr_iload_n C (i := 2) dX0_settle_44 rfl rfl ?_
        refine tr_iald C (n := 8) (fl_4 hb) dX0_settle_45 (fun h9 => ?_)
        refine tr_iast C (n := 8) (σ' := wr σ4 (b + 3) y2_4 (rd σ4 (b + 4) y2_4)) (fl_3 hb) dX0_settle_46 rfl (fun h8 => ?_)
        refine tr_stp (fun σw7 eσw7 => ?_)
        refine tr_iinc C (i := 2) (d := 1) (lv' := [some (.ref (ad b)), some (.int (y1_4 + 1)), some (.int (y2_4 + 1))]) dX0_settle_47 rfl (by decide) (by decide) rfl ?_
        refine tr_goto C (tgt := 4) dX0_settle_50 (by decide) ?_
        exact IH4 (σw7, y1_4 + 1, y2_4 + 1)
      · refine tr_aload_n C (i := 0) dX0_settle_35 rfl rfl ?_
        refine tr_getR C (k := 2) (ci := 0) (fl_0 hb) rfl rfl inT0 rfl (by decide) w226 dX0_settle_36 ?_
        refine tr_iload_n C (i := 2) dX0_settle_39 rfl rfl ?_
        refine tr_aload_n C (i := 0) dX0_settle_40 rfl rfl ?_
        refine tr_getR C (k := 9) (ci := 0) (fl_0 hb) rfl rfl inT0 rfl (by decide) w239 dX0_settle_41 ?_
        refine tr_iload_n C (i := 2) dX0_settle_44 rfl rfl ?_
        refine tr_iald C (n := 8) (fl_4 hb) dX0_settle_45 (fun h6 => ?_)
        refine tr_iast C (n := 8) (σ' := wr σ4 (b + 3) y2_4 (rd σ4 (b + 4) y2_4)) (fl_3 hb) dX0_settle_46 rfl (fun h5 => ?_)
        refine tr_stp (fun σw4 eσw4 => ?_)
        refine tr_iinc C (i := 2) (d := 1) (lv' := [some (.ref (ad b)), some (.int y1_4), some (.int (y2_4 + 1))]) dX0_settle_47 rfl (by decide) (by decide) rfl ?_
        refine tr_goto C (tgt := 4) dX0_settle_50 (by decide) ?_
        exact IH4 (σw4, y1_4, y2_4 + 1)
def fX0_brush_b72 (b : Nat) (a1 : Int32) (ih18 : Mem × Int32 × Int32 → Option (Int32 × Mem)) (σ72 : Mem) (y2_72 : Int32) (y3_72 : Int32) : Option (Int32 × Mem) :=
  gd (inB y3_72 8) (
    bnd (fX0_far b y3_72 σ72) fun r5 σ5 => (
      bn1 (fX0_swept b (rd σ72 (b + 3) y3_72) y2_72 r5 σ5) fun r6 => (
        gd (inB y3_72 8) (stp (wr σ5 (b + 4) y3_72 r6) fun σw7 => (
          ih18 (σw7, y2_72, y3_72 + 1)
        ))
      )
    )
  )
def fX0_brush_L18 (b : Nat) (a1 : Int32) (ih18 : Mem × Int32 × Int32 → Option (Int32 × Mem)) : Mem × Int32 × Int32 → Option (Int32 × Mem) := fun v => match v with
  | (σ18, y2_18, y3_18) =>
    if (σ18.1 b 7) ≤ y3_18 then (
      bnd (fX0_settle b σ18) fun r1 σ1 => (
        some (r1, σ1)
      )
    ) else (
      gd (inB y3_18 8) (
        gd (inB y3_18 8) (stp (wr σ18 (b + 4) y3_18 (rd σ18 (b + 3) y3_18)) fun σw2 => (
          gd (inB y3_18 8) (
            bn1 (fX0_isInLine (rd σw2 (b + 3) y3_18) a1 σw2) fun r3 => (
              if r3 = 0 then (
                ih18 (σw2, y2_18, y3_18 + 1)
              ) else (
                gd (inB y3_18 8) (
                  bn1 (fX0_isCracked b (rd σw2 (b + 3) y3_18) σw2) fun r4 => (
                    if r4 = 0 then (
                      fX0_brush_b72 b a1 ih18 σw2 y2_18 y3_18
                    ) else (
                      bnd (fX0_isFree b y3_18 σw2) fun r10 σ10 => (
                        if r10 = 0 then (
                          ih18 (σ10, y2_18, y3_18 + 1)
                        ) else (
                          fX0_brush_b72 b a1 ih18 σ10 y2_18 y3_18
                        )
                      )
                    )
                  )
                )
              )
            )
          )
        ))
      )
    )
def fX0_brush (b : Nat) (a1 : Int32) (σ : Mem) : Option (Int32 × Mem) :=
  if 12 ≤ a1 then (
    loopN (fX0_brush_L18 b a1) 1000 (σ, 3 + (a1 - a1 / 2 * 2), 0)
  ) else (
    loopN (fX0_brush_L18 b a1) 1000 (σ, 1 + (a1 - a1 / 2 * 2), 0)
  )
set_option maxHeartbeats 4000000 in
set_option maxRecDepth 100000 in
theorem kX0_brush (l : Launch) (g : GG) (cs : CS) (ad : Nat → Nat) (b : Nat) (a1 : Int32) (hb : isFl b) (σ : Mem) : CtI l g cs ad (shC g) mX0_brush (.code mX0_brush cX0_brush 4 (some .int)) { frames := 3, cells := 0, slots := 0, locals := 71 } [.ref (ad b), .int a1] σ (fX0_brush b a1 σ) := by
  refine ctI_intro (own := "KinInTheHeap$Floor") (by decide +kernel) rfl [some (.ref (ad b)), some (.int a1), none, none] (Nat.le_of_ble_eq_true rfl) rfl ?_
  intro p e s m args below meth c A C hr hlk
  refine tr_iload_n C (i := 1) dX0_brush_0 rfl rfl ?_
  refine tr_bipush C (v := 12) dX0_brush_1 (by decide) ?_
  refine tr_icmp_ge C (tgt := 10) dX0_brush_3 (by decide) (fun q32 => ?_) (fun q32 => ?_)
  · refine tr_iconst C (v := 3) dX0_brush_10 (by decide) ?_
    refine tr_iload_n C (i := 1) dX0_brush_11 rfl rfl ?_
    refine tr_iconst C (v := 2) dX0_brush_12 (by decide) ?_
    refine tr_iremK C dX0_brush_13 (by decide) ?_
    refine tr_iadd C dX0_brush_14 ?_
    refine tr_istore_n C (i := 2) (lv' := [some (.ref (ad b)), some (.int a1), some (.int (3 + (a1 - a1 / 2 * 2))), none]) dX0_brush_15 rfl (by decide) rfl ?_
    refine tr_iconst C (v := 0) dX0_brush_16 (by decide) ?_
    refine tr_istore_n C (i := 3) (lv' := [some (.ref (ad b)), some (.int a1), some (.int (3 + (a1 - a1 / 2 * 2))), some (.int 0)]) dX0_brush_17 rfl (by decide) rfl ?_
    refine tr_loop (b := fX0_brush_L18 b a1) (sg := fun v => v.1) (lw := fun v => [some (.ref (ad b)), some (.int a1), some (.int v.2.1), some (.int v.2.2)]) (sw := fun v => []) (fun ih18 IH18 v => ?_) 1000 (σ, 3 + (a1 - a1 / 2 * 2), 0)
    obtain ⟨σ18, y2_18, y3_18⟩ := v
    refine tr_st (σ' := σ18) (lv' := [some (.ref (ad b)), some (.int a1), some (.int y2_18), some (.int y3_18)]) (st' := []) rfl rfl rfl ?_
    refine tr_iload_n C (i := 3) dX0_brush_18 rfl rfl ?_
    refine tr_aload_n C (i := 0) dX0_brush_19 rfl rfl ?_
    refine tr_getI C (k := 7) (ci := 0) (fl_0 hb) rfl rfl inT0 rfl (by decide) w236 dX0_brush_20 ?_
    refine tr_icmp_ge C (tgt := 100) dX0_brush_23 (by decide) (fun q18 => ?_) (fun q18 => ?_)
    · refine tr_aload_n C (i := 0) dX0_brush_100 rfl rfl ?_
      refine tr_cVI C (av := []) (st := []) (kX0_settle l g cs ad b hb σ18) mwX0_settle w656 (fl_0 hb) rfl ⟨rfl, rfl⟩ ⟨(Nat.le_of_ble_eq_true rfl), (Nat.le_of_ble_eq_true rfl)⟩ rfl rfl (Nat.le_of_ble_eq_true rfl) dX0_brush_101 (fun r1 σ1 hr1 => ?_)
      exact tr_iret C hr hlk dX0_brush_104
    · refine tr_aload_n C (i := 0) dX0_brush_26 rfl rfl ?_
      refine tr_getR C (k := 9) (ci := 0) (fl_0 hb) rfl rfl inT0 rfl (by decide) w239 dX0_brush_27 ?_
      refine tr_iload_n C (i := 3) dX0_brush_30 rfl rfl ?_
      refine tr_aload_n C (i := 0) dX0_brush_31 rfl rfl ?_
      refine tr_getR C (k := 2) (ci := 0) (fl_0 hb) rfl rfl inT0 rfl (by decide) w226 dX0_brush_32 ?_
      refine tr_iload_n C (i := 3) dX0_brush_35 rfl rfl ?_
      refine tr_iald C (n := 8) (fl_3 hb) dX0_brush_36 (fun h17 => ?_)
      refine tr_iast C (n := 8) (σ' := wr σ18 (b + 4) y3_18 (rd σ18 (b + 3) y3_18)) (fl_4 hb) dX0_brush_37 rfl (fun h16 => ?_)
      refine tr_stp (fun σw2 eσw2 => ?_)
      refine tr_aload_n C (i := 0) dX0_brush_38 rfl rfl ?_
      refine tr_getR C (k := 2) (ci := 0) (fl_0 hb) rfl rfl inT0 rfl (by decide) w226 dX0_brush_39 ?_
      refine tr_iload_n C (i := 3) dX0_brush_42 rfl rfl ?_
      refine tr_iald C (n := 8) (fl_3 hb) dX0_brush_43 (fun h15 => ?_)
      refine tr_iload_n C (i := 1) dX0_brush_44 rfl rfl ?_
      refine tr_cSIP C (av := [.int (rd σw2 (b + 3) y3_18), .int a1]) (st := []) (kX0_isInLine l g cs ad (rd σw2 (b + 3) y3_18) a1 σw2) mwX0_isInLine w643 ⟨rfl, rfl⟩ ⟨(Nat.le_of_ble_eq_true rfl), (Nat.le_of_ble_eq_true rfl)⟩ rfl rfl (Nat.le_of_ble_eq_true rfl) dX0_brush_45 (fun r3 hr3 => ?_)
      refine tr_if_eq C (tgt := 94) dX0_brush_48 (by decide) (fun q14 => ?_) (fun q14 => ?_)
      · refine tr_iinc C (i := 3) (d := 1) (lv' := [some (.ref (ad b)), some (.int a1), some (.int y2_18), some (.int (y3_18 + 1))]) dX0_brush_94 rfl (by decide) (by decide) rfl ?_
        refine tr_goto C (tgt := 18) dX0_brush_97 (by decide) ?_
        exact IH18 (σw2, y2_18, y3_18 + 1)
      · refine tr_aload_n C (i := 0) dX0_brush_51 rfl rfl ?_
        refine tr_aload_n C (i := 0) dX0_brush_52 rfl rfl ?_
        refine tr_getR C (k := 2) (ci := 0) (fl_0 hb) rfl rfl inT0 rfl (by decide) w226 dX0_brush_53 ?_
        refine tr_iload_n C (i := 3) dX0_brush_56 rfl rfl ?_
        refine tr_iald C (n := 8) (fl_3 hb) dX0_brush_57 (fun h13 => ?_)
        refine tr_cVIP C (av := [.int (rd σw2 (b + 3) y3_18)]) (st := []) (kX0_isCracked l g cs ad b (rd σw2 (b + 3) y3_18) hb σw2) mwX0_isCracked w646 (fl_0 hb) rfl ⟨rfl, rfl⟩ ⟨(Nat.le_of_ble_eq_true rfl), (Nat.le_of_ble_eq_true rfl)⟩ rfl rfl (Nat.le_of_ble_eq_true rfl) dX0_brush_58 (fun r4 hr4 => ?_)
        have B72 : ∀ (σ72 : Mem) (y2_72 : Int32) (y3_72 : Int32), Tr p l e { frames := 3, cells := 0, slots := 0, locals := 71 } s m args below meth c g ad (shC g) A 4 (QI g ad (shC g) A below args s) (fX0_brush_b72 b a1 ih18 σ72 y2_72 y3_72) σ72 72 [some (.ref (ad b)), some (.int a1), some (.int y2_72), some (.int y3_72)] [] := by
          intro σ72 y2_72 y3_72
          refine tr_aload_n C (i := 0) dX0_brush_72 rfl rfl ?_
          refine tr_getR C (k := 9) (ci := 0) (fl_0 hb) rfl rfl inT0 rfl (by decide) w239 dX0_brush_73 ?_
          refine tr_iload_n C (i := 3) dX0_brush_76 rfl rfl ?_
          refine tr_aload_n C (i := 0) dX0_brush_77 rfl rfl ?_
          refine tr_aload_n C (i := 0) dX0_brush_78 rfl rfl ?_
          refine tr_getR C (k := 2) (ci := 0) (fl_0 hb) rfl rfl inT0 rfl (by decide) w226 dX0_brush_79 ?_
          refine tr_iload_n C (i := 3) dX0_brush_82 rfl rfl ?_
          refine tr_iald C (n := 8) (fl_3 hb) dX0_brush_83 (fun h9 => ?_)
          refine tr_iload_n C (i := 2) dX0_brush_84 rfl rfl ?_
          refine tr_aload_n C (i := 0) dX0_brush_85 rfl rfl ?_
          refine tr_iload_n C (i := 3) dX0_brush_86 rfl rfl ?_
          refine tr_cVI C (av := [.int y3_72]) (st := [.int y2_72, .int (rd σ72 (b + 3) y3_72), .ref (ad b), .int y3_72, .ref (ad (b + 4))]) (kX0_far l g cs ad b y3_72 hb σ72) mwX0_far w648 (fl_0 hb) rfl ⟨rfl, rfl⟩ ⟨(Nat.le_of_ble_eq_true rfl), (Nat.le_of_ble_eq_true rfl)⟩ rfl rfl (Nat.le_of_ble_eq_true rfl) dX0_brush_87 (fun r5 σ5 hr5 => ?_)
          refine tr_cVIP C (av := [.int (rd σ72 (b + 3) y3_72), .int y2_72, .int r5]) (st := [.int y3_72, .ref (ad (b + 4))]) (kX0_swept l g cs ad b (rd σ72 (b + 3) y3_72) y2_72 r5 hb σ5) mwX0_swept w649 (fl_0 hb) rfl ⟨rfl, rfl⟩ ⟨(Nat.le_of_ble_eq_true rfl), (Nat.le_of_ble_eq_true rfl)⟩ rfl rfl (Nat.le_of_ble_eq_true rfl) dX0_brush_90 (fun r6 hr6 => ?_)
          refine tr_iast C (n := 8) (σ' := wr σ5 (b + 4) y3_72 r6) (fl_4 hb) dX0_brush_93 rfl (fun h8 => ?_)
          refine tr_stp (fun σw7 eσw7 => ?_)
          refine tr_iinc C (i := 3) (d := 1) (lv' := [some (.ref (ad b)), some (.int a1), some (.int y2_72), some (.int (y3_72 + 1))]) dX0_brush_94 rfl (by decide) (by decide) rfl ?_
          refine tr_goto C (tgt := 18) dX0_brush_97 (by decide) ?_
          exact IH18 (σw7, y2_72, y3_72 + 1)
        refine tr_if_eq C (tgt := 72) dX0_brush_61 (by decide) (fun q12 => ?_) (fun q12 => ?_)
        · exact B72 σw2 y2_18 y3_18
        · refine tr_aload_n C (i := 0) dX0_brush_64 rfl rfl ?_
          refine tr_iload_n C (i := 3) dX0_brush_65 rfl rfl ?_
          refine tr_cVI C (av := [.int y3_18]) (st := []) (kX0_isFree l g cs ad b y3_18 hb σw2) mwX0_isFree w647 (fl_0 hb) rfl ⟨rfl, rfl⟩ ⟨(Nat.le_of_ble_eq_true rfl), (Nat.le_of_ble_eq_true rfl)⟩ rfl rfl (Nat.le_of_ble_eq_true rfl) dX0_brush_66 (fun r10 σ10 hr10 => ?_)
          refine tr_if_eq C (tgt := 94) dX0_brush_69 (by decide) (fun q11 => ?_) (fun q11 => ?_)
          · refine tr_iinc C (i := 3) (d := 1) (lv' := [some (.ref (ad b)), some (.int a1), some (.int y2_18), some (.int (y3_18 + 1))]) dX0_brush_94 rfl (by decide) (by decide) rfl ?_
            refine tr_goto C (tgt := 18) dX0_brush_97 (by decide) ?_
            exact IH18 (σ10, y2_18, y3_18 + 1)
          · exact B72 σ10 y2_18 y3_18
  · refine tr_iconst C (v := 1) dX0_brush_6 (by decide) ?_
    refine tr_goto C (tgt := 11) dX0_brush_7 (by decide) ?_
    refine tr_iload_n C (i := 1) dX0_brush_11 rfl rfl ?_
    refine tr_iconst C (v := 2) dX0_brush_12 (by decide) ?_
    refine tr_iremK C dX0_brush_13 (by decide) ?_
    refine tr_iadd C dX0_brush_14 ?_
    refine tr_istore_n C (i := 2) (lv' := [some (.ref (ad b)), some (.int a1), some (.int (1 + (a1 - a1 / 2 * 2))), none]) dX0_brush_15 rfl (by decide) rfl ?_
    refine tr_iconst C (v := 0) dX0_brush_16 (by decide) ?_
    refine tr_istore_n C (i := 3) (lv' := [some (.ref (ad b)), some (.int a1), some (.int (1 + (a1 - a1 / 2 * 2))), some (.int 0)]) dX0_brush_17 rfl (by decide) rfl ?_
    refine tr_loop (b := fX0_brush_L18 b a1) (sg := fun v => v.1) (lw := fun v => [some (.ref (ad b)), some (.int a1), some (.int v.2.1), some (.int v.2.2)]) (sw := fun v => []) (fun ih18 IH18 v => ?_) 1000 (σ, 1 + (a1 - a1 / 2 * 2), 0)
    obtain ⟨σ18, y2_18, y3_18⟩ := v
    refine tr_st (σ' := σ18) (lv' := [some (.ref (ad b)), some (.int a1), some (.int y2_18), some (.int y3_18)]) (st' := []) rfl rfl rfl ?_
    refine tr_iload_n C (i := 3) dX0_brush_18 rfl rfl ?_
    refine tr_aload_n C (i := 0) dX0_brush_19 rfl rfl ?_
    refine tr_getI C (k := 7) (ci := 0) (fl_0 hb) rfl rfl inT0 rfl (by decide) w236 dX0_brush_20 ?_
    refine tr_icmp_ge C (tgt := 100) dX0_brush_23 (by decide) (fun q31 => ?_) (fun q31 => ?_)
    · refine tr_aload_n C (i := 0) dX0_brush_100 rfl rfl ?_
      refine tr_cVI C (av := []) (st := []) (kX0_settle l g cs ad b hb σ18) mwX0_settle w656 (fl_0 hb) rfl ⟨rfl, rfl⟩ ⟨(Nat.le_of_ble_eq_true rfl), (Nat.le_of_ble_eq_true rfl)⟩ rfl rfl (Nat.le_of_ble_eq_true rfl) dX0_brush_101 (fun r19 σ19 hr19 => ?_)
      exact tr_iret C hr hlk dX0_brush_104
    · refine tr_aload_n C (i := 0) dX0_brush_26 rfl rfl ?_
      refine tr_getR C (k := 9) (ci := 0) (fl_0 hb) rfl rfl inT0 rfl (by decide) w239 dX0_brush_27 ?_
      refine tr_iload_n C (i := 3) dX0_brush_30 rfl rfl ?_
      refine tr_aload_n C (i := 0) dX0_brush_31 rfl rfl ?_
      refine tr_getR C (k := 2) (ci := 0) (fl_0 hb) rfl rfl inT0 rfl (by decide) w226 dX0_brush_32 ?_
      refine tr_iload_n C (i := 3) dX0_brush_35 rfl rfl ?_
      refine tr_iald C (n := 8) (fl_3 hb) dX0_brush_36 (fun h30 => ?_)
      refine tr_iast C (n := 8) (σ' := wr σ18 (b + 4) y3_18 (rd σ18 (b + 3) y3_18)) (fl_4 hb) dX0_brush_37 rfl (fun h29 => ?_)
      refine tr_stp (fun σw20 eσw20 => ?_)
      refine tr_aload_n C (i := 0) dX0_brush_38 rfl rfl ?_
      refine tr_getR C (k := 2) (ci := 0) (fl_0 hb) rfl rfl inT0 rfl (by decide) w226 dX0_brush_39 ?_
      refine tr_iload_n C (i := 3) dX0_brush_42 rfl rfl ?_
      refine tr_iald C (n := 8) (fl_3 hb) dX0_brush_43 (fun h28 => ?_)
      refine tr_iload_n C (i := 1) dX0_brush_44 rfl rfl ?_
      refine tr_cSIP C (av := [.int (rd σw20 (b + 3) y3_18), .int a1]) (st := []) (kX0_isInLine l g cs ad (rd σw20 (b + 3) y3_18) a1 σw20) mwX0_isInLine w643 ⟨rfl, rfl⟩ ⟨(Nat.le_of_ble_eq_true rfl), (Nat.le_of_ble_eq_true rfl)⟩ rfl rfl (Nat.le_of_ble_eq_true rfl) dX0_brush_45 (fun r21 hr21 => ?_)
      refine tr_if_eq C (tgt := 94) dX0_brush_48 (by decide) (fun q27 => ?_) (fun q27 => ?_)
      · refine tr_iinc C (i := 3) (d := 1) (lv' := [some (.ref (ad b)), some (.int a1), some (.int y2_18), some (.int (y3_18 + 1))]) dX0_brush_94 rfl (by decide) (by decide) rfl ?_
        refine tr_goto C (tgt := 18) dX0_brush_97 (by decide) ?_
        exact IH18 (σw20, y2_18, y3_18 + 1)
      · refine tr_aload_n C (i := 0) dX0_brush_51 rfl rfl ?_
        refine tr_aload_n C (i := 0) dX0_brush_52 rfl rfl ?_
        refine tr_getR C (k := 2) (ci := 0) (fl_0 hb) rfl rfl inT0 rfl (by decide) w226 dX0_brush_53 ?_
        refine tr_iload_n C (i := 3) dX0_brush_56 rfl rfl ?_
        refine tr_iald C (n := 8) (fl_3 hb) dX0_brush_57 (fun h26 => ?_)
        refine tr_cVIP C (av := [.int (rd σw20 (b + 3) y3_18)]) (st := []) (kX0_isCracked l g cs ad b (rd σw20 (b + 3) y3_18) hb σw20) mwX0_isCracked w646 (fl_0 hb) rfl ⟨rfl, rfl⟩ ⟨(Nat.le_of_ble_eq_true rfl), (Nat.le_of_ble_eq_true rfl)⟩ rfl rfl (Nat.le_of_ble_eq_true rfl) dX0_brush_58 (fun r22 hr22 => ?_)
        have B72 : ∀ (σ72 : Mem) (y2_72 : Int32) (y3_72 : Int32), Tr p l e { frames := 3, cells := 0, slots := 0, locals := 71 } s m args below meth c g ad (shC g) A 4 (QI g ad (shC g) A below args s) (fX0_brush_b72 b a1 ih18 σ72 y2_72 y3_72) σ72 72 [some (.ref (ad b)), some (.int a1), some (.int y2_72), some (.int y3_72)] [] := by
          intro σ72 y2_72 y3_72
          refine tr_aload_n C (i := 0) dX0_brush_72 rfl rfl ?_
          refine tr_getR C (k := 9) (ci := 0) (fl_0 hb) rfl rfl inT0 rfl (by decide) w239 dX0_brush_73 ?_
          refine tr_iload_n C (i := 3) dX0_brush_76 rfl rfl ?_
          refine tr_aload_n C (i := 0) dX0_brush_77 rfl rfl ?_
          refine tr_aload_n C (i := 0) dX0_brush_78 rfl rfl ?_
          refine tr_getR C (k := 2) (ci := 0) (fl_0 hb) rfl rfl inT0 rfl (by decide) w226 dX0_brush_79 ?_
          refine tr_iload_n C (i := 3) dX0_brush_82 rfl rfl ?_
          refine tr_iald C (n := 8) (fl_3 hb) dX0_brush_83 (fun h9 => ?_)
          refine tr_iload_n C (i := 2) dX0_brush_84 rfl rfl ?_
          refine tr_aload_n C (i := 0) dX0_brush_85 rfl rfl ?_
          refine tr_iload_n C (i := 3) dX0_brush_86 rfl rfl ?_
          refine tr_cVI C (av := [.int y3_72]) (st := [.int y2_72, .int (rd σ72 (b + 3) y3_72), .ref (ad b), .int y3_72, .ref (ad (b + 4))]) (kX0_far l g cs ad b y3_72 hb σ72) mwX0_far w648 (fl_0 hb) rfl ⟨rfl, rfl⟩ ⟨(Nat.le_of_ble_eq_true rfl), (Nat.le_of_ble_eq_true rfl)⟩ rfl rfl (Nat.le_of_ble_eq_true rfl) dX0_brush_87 (fun r5 σ5 hr5 => ?_)
          refine tr_cVIP C (av := [.int (rd σ72 (b + 3) y3_72), .int y2_72, .int r5]) (st := [.int y3_72, .ref (ad (b + 4))]) (kX0_swept l g cs ad b (rd σ72 (b + 3) y3_72) y2_72 r5 hb σ5) mwX0_swept w649 (fl_0 hb) rfl ⟨rfl, rfl⟩ ⟨(Nat.le_of_ble_eq_true rfl), (Nat.le_of_ble_eq_true rfl)⟩ rfl rfl (Nat.le_of_ble_eq_true rfl) dX0_brush_90 (fun r6 hr6 => ?_)
          refine tr_iast C (n := 8) (σ' := wr σ5 (b + 4) y3_72 r6) (fl_4 hb) dX0_brush_93 rfl (fun h8 => ?_)
          refine tr_stp (fun σw7 eσw7 => ?_)
          refine tr_iinc C (i := 3) (d := 1) (lv' := [some (.ref (ad b)), some (.int a1), some (.int y2_72), some (.int (y3_72 + 1))]) dX0_brush_94 rfl (by decide) (by decide) rfl ?_
          refine tr_goto C (tgt := 18) dX0_brush_97 (by decide) ?_
          exact IH18 (σw7, y2_72, y3_72 + 1)
        refine tr_if_eq C (tgt := 72) dX0_brush_61 (by decide) (fun q25 => ?_) (fun q25 => ?_)
        · exact B72 σw20 y2_18 y3_18
        · refine tr_aload_n C (i := 0) dX0_brush_64 rfl rfl ?_
          refine tr_iload_n C (i := 3) dX0_brush_65 rfl rfl ?_
          refine tr_cVI C (av := [.int y3_18]) (st := []) (kX0_isFree l g cs ad b y3_18 hb σw20) mwX0_isFree w647 (fl_0 hb) rfl ⟨rfl, rfl⟩ ⟨(Nat.le_of_ble_eq_true rfl), (Nat.le_of_ble_eq_true rfl)⟩ rfl rfl (Nat.le_of_ble_eq_true rfl) dX0_brush_66 (fun r23 σ23 hr23 => ?_)
          refine tr_if_eq C (tgt := 94) dX0_brush_69 (by decide) (fun q24 => ?_) (fun q24 => ?_)
          · refine tr_iinc C (i := 3) (d := 1) (lv' := [some (.ref (ad b)), some (.int a1), some (.int y2_18), some (.int (y3_18 + 1))]) dX0_brush_94 rfl (by decide) (by decide) rfl ?_
            refine tr_goto C (tgt := 18) dX0_brush_97 (by decide) ?_
            exact IH18 (σ23, y2_18, y3_18 + 1)
          · exact B72 σ23 y2_18 y3_18
def fX0_drift_b79 (b : Nat) (σ79 : Mem) : Option (Int32 × Mem) :=
  stp (putI σ79 b 4 ((σ79.1 b 4) + 1)) fun σw1 => (
    bnd (fX0_settle b σw1) fun r2 σ2 => (
      some (r2, σ2)
    )
  )
def fX0_drift_b53 (b : Nat) (ih2 : Mem × Int32 → Option (Int32 × Mem)) (σ53 : Mem) (y1_53 : Int32) : Option (Int32 × Mem) :=
  gd (inB y1_53 8) (
    bnd (fX0_way b y1_53 σ53) fun r5 σ5 => (
      bn1 (fX0_stepped (rd σ53 (b + 3) y1_53) r5 σ5) fun r6 => (
        gd (inB y1_53 8) (stp (wr σ5 (b + 4) y1_53 r6) fun σw7 => (
          ih2 (σw7, y1_53 + 1)
        ))
      )
    )
  )
def fX0_drift_L2 (b : Nat) (ih2 : Mem × Int32 → Option (Int32 × Mem)) : Mem × Int32 → Option (Int32 × Mem) := fun v => match v with
  | (σ2, y1_2) =>
    if (σ2.1 b 7) ≤ y1_2 then (
      fX0_drift_b79 b σ2
    ) else (
      gd (inB y1_2 8) (
        gd (inB y1_2 8) (stp (wr σ2 (b + 4) y1_2 (rd σ2 (b + 3) y1_2)) fun σw3 => (
          gd (inB y1_2 8) (
            if (rd σw3 (b + 3) y1_2) = (-1) then (
              ih2 (σw3, y1_2 + 1)
            ) else (
              gd (inB y1_2 8) (
                bn1 (fX0_isCracked b (rd σw3 (b + 3) y1_2) σw3) fun r4 => (
                  if r4 = 0 then (
                    fX0_drift_b53 b ih2 σw3 y1_2
                  ) else (
                    bnd (fX0_isFree b y1_2 σw3) fun r10 σ10 => (
                      if r10 = 0 then (
                        ih2 (σ10, y1_2 + 1)
                      ) else (
                        fX0_drift_b53 b ih2 σ10 y1_2
                      )
                    )
                  )
                )
              )
            )
          )
        ))
      )
    )
def fX0_drift (b : Nat) (σ : Mem) : Option (Int32 × Mem) :=
  loopN (fX0_drift_L2 b) 1000 (σ, 0)
set_option maxHeartbeats 4000000 in
set_option maxRecDepth 100000 in
theorem kX0_drift (l : Launch) (g : GG) (cs : CS) (ad : Nat → Nat) (b : Nat) (hb : isFl b) (σ : Mem) : CtI l g cs ad (shC g) mX0_drift (.code mX0_drift cX0_drift 2 (some .int)) { frames := 3, cells := 0, slots := 0, locals := 71 } [.ref (ad b)] σ (fX0_drift b σ) := by
  refine ctI_intro (own := "KinInTheHeap$Floor") (by decide +kernel) rfl [some (.ref (ad b)), none] (Nat.le_of_ble_eq_true rfl) rfl ?_
  intro p e s m args below meth c A C hr hlk
  refine tr_iconst C (v := 0) dX0_drift_0 (by decide) ?_
  refine tr_istore_n C (i := 1) (lv' := [some (.ref (ad b)), some (.int 0)]) dX0_drift_1 rfl (by decide) rfl ?_
  refine tr_loop (b := fX0_drift_L2 b) (sg := fun v => v.1) (lw := fun v => [some (.ref (ad b)), some (.int v.2)]) (sw := fun v => []) (fun ih2 IH2 v => ?_) 1000 (σ, 0)
  obtain ⟨σ2, y1_2⟩ := v
  refine tr_st (σ' := σ2) (lv' := [some (.ref (ad b)), some (.int y1_2)]) (st' := []) rfl rfl rfl ?_
  refine tr_iload_n C (i := 1) dX0_drift_2 rfl rfl ?_
  refine tr_aload_n C (i := 0) dX0_drift_3 rfl rfl ?_
  refine tr_getI C (k := 7) (ci := 0) (fl_0 hb) rfl rfl inT0 rfl (by decide) w236 dX0_drift_4 ?_
  have B79 : ∀ (σ79 : Mem), Tr p l e { frames := 3, cells := 0, slots := 0, locals := 71 } s m args below meth c g ad (shC g) A 2 (QI g ad (shC g) A below args s) (fX0_drift_b79 b σ79) σ79 79 [some (.ref (ad b)), none] [] := by
    intro σ79
    refine tr_aload_n C (i := 0) dX0_drift_79 rfl rfl ?_
    refine tr_dup C dX0_drift_80 rfl ?_
    refine tr_getI C (k := 4) (ci := 0) (fl_0 hb) rfl rfl inT0 rfl (by decide) w230 dX0_drift_81 ?_
    refine tr_iconst C (v := 1) dX0_drift_84 (by decide) ?_
    refine tr_iadd C dX0_drift_85 ?_
    refine tr_putI C (k := 4) (ci := 0) (σ' := putI σ79 b 4 ((σ79.1 b 4) + 1)) (fl_0 hb) rfl rfl inT0 rfl (by decide) tyX0 tyX0_ok nmX0 rfl rfl w230 dX0_drift_86 rfl ?_
    refine tr_stp (fun σw1 eσw1 => ?_)
    refine tr_aload_n C (i := 0) dX0_drift_89 rfl rfl ?_
    refine tr_cVI C (av := []) (st := []) (kX0_settle l g cs ad b hb σw1) mwX0_settle w656 (fl_0 hb) rfl ⟨rfl, rfl⟩ ⟨(Nat.le_of_ble_eq_true rfl), (Nat.le_of_ble_eq_true rfl)⟩ rfl rfl (Nat.le_of_ble_eq_true rfl) dX0_drift_90 (fun r2 σ2 hr2 => ?_)
    exact tr_iret C hr hlk dX0_drift_93
  refine tr_icmp_ge C (tgt := 79) dX0_drift_7 (by decide) (fun q18 => ?_) (fun q18 => ?_)
  · refine tr_mask [true, false] rfl ?_
    exact B79 σ2
  · refine tr_aload_n C (i := 0) dX0_drift_10 rfl rfl ?_
    refine tr_getR C (k := 9) (ci := 0) (fl_0 hb) rfl rfl inT0 rfl (by decide) w239 dX0_drift_11 ?_
    refine tr_iload_n C (i := 1) dX0_drift_14 rfl rfl ?_
    refine tr_aload_n C (i := 0) dX0_drift_15 rfl rfl ?_
    refine tr_getR C (k := 2) (ci := 0) (fl_0 hb) rfl rfl inT0 rfl (by decide) w226 dX0_drift_16 ?_
    refine tr_iload_n C (i := 1) dX0_drift_19 rfl rfl ?_
    refine tr_iald C (n := 8) (fl_3 hb) dX0_drift_20 (fun h17 => ?_)
    refine tr_iast C (n := 8) (σ' := wr σ2 (b + 4) y1_2 (rd σ2 (b + 3) y1_2)) (fl_4 hb) dX0_drift_21 rfl (fun h16 => ?_)
    refine tr_stp (fun σw3 eσw3 => ?_)
    refine tr_aload_n C (i := 0) dX0_drift_22 rfl rfl ?_
    refine tr_getR C (k := 2) (ci := 0) (fl_0 hb) rfl rfl inT0 rfl (by decide) w226 dX0_drift_23 ?_
    refine tr_iload_n C (i := 1) dX0_drift_26 rfl rfl ?_
    refine tr_iald C (n := 8) (fl_3 hb) dX0_drift_27 (fun h15 => ?_)
    refine tr_iconst C (v := -1) dX0_drift_28 (by decide) ?_
    refine tr_icmp_eq C (tgt := 73) dX0_drift_29 (by decide) (fun q14 => ?_) (fun q14 => ?_)
    · refine tr_iinc C (i := 1) (d := 1) (lv' := [some (.ref (ad b)), some (.int (y1_2 + 1))]) dX0_drift_73 rfl (by decide) (by decide) rfl ?_
      refine tr_goto C (tgt := 2) dX0_drift_76 (by decide) ?_
      exact IH2 (σw3, y1_2 + 1)
    · refine tr_aload_n C (i := 0) dX0_drift_32 rfl rfl ?_
      refine tr_aload_n C (i := 0) dX0_drift_33 rfl rfl ?_
      refine tr_getR C (k := 2) (ci := 0) (fl_0 hb) rfl rfl inT0 rfl (by decide) w226 dX0_drift_34 ?_
      refine tr_iload_n C (i := 1) dX0_drift_37 rfl rfl ?_
      refine tr_iald C (n := 8) (fl_3 hb) dX0_drift_38 (fun h13 => ?_)
      refine tr_cVIP C (av := [.int (rd σw3 (b + 3) y1_2)]) (st := []) (kX0_isCracked l g cs ad b (rd σw3 (b + 3) y1_2) hb σw3) mwX0_isCracked w646 (fl_0 hb) rfl ⟨rfl, rfl⟩ ⟨(Nat.le_of_ble_eq_true rfl), (Nat.le_of_ble_eq_true rfl)⟩ rfl rfl (Nat.le_of_ble_eq_true rfl) dX0_drift_39 (fun r4 hr4 => ?_)
      have B53 : ∀ (σ53 : Mem) (y1_53 : Int32), Tr p l e { frames := 3, cells := 0, slots := 0, locals := 71 } s m args below meth c g ad (shC g) A 2 (QI g ad (shC g) A below args s) (fX0_drift_b53 b ih2 σ53 y1_53) σ53 53 [some (.ref (ad b)), some (.int y1_53)] [] := by
        intro σ53 y1_53
        refine tr_aload_n C (i := 0) dX0_drift_53 rfl rfl ?_
        refine tr_getR C (k := 9) (ci := 0) (fl_0 hb) rfl rfl inT0 rfl (by decide) w239 dX0_drift_54 ?_
        refine tr_iload_n C (i := 1) dX0_drift_57 rfl rfl ?_
        refine tr_aload_n C (i := 0) dX0_drift_58 rfl rfl ?_
        refine tr_getR C (k := 2) (ci := 0) (fl_0 hb) rfl rfl inT0 rfl (by decide) w226 dX0_drift_59 ?_
        refine tr_iload_n C (i := 1) dX0_drift_62 rfl rfl ?_
        refine tr_iald C (n := 8) (fl_3 hb) dX0_drift_63 (fun h9 => ?_)
        refine tr_aload_n C (i := 0) dX0_drift_64 rfl rfl ?_
        refine tr_iload_n C (i := 1) dX0_drift_65 rfl rfl ?_
        refine tr_cVI C (av := [.int y1_53]) (st := [.int (rd σ53 (b + 3) y1_53), .int y1_53, .ref (ad (b + 4))]) (kX0_way l g cs ad b y1_53 hb σ53) mwX0_way w668 (fl_0 hb) rfl ⟨rfl, rfl⟩ ⟨(Nat.le_of_ble_eq_true rfl), (Nat.le_of_ble_eq_true rfl)⟩ rfl rfl (Nat.le_of_ble_eq_true rfl) dX0_drift_66 (fun r5 σ5 hr5 => ?_)
        refine tr_cSIP C (av := [.int (rd σ53 (b + 3) y1_53), .int r5]) (st := [.int y1_53, .ref (ad (b + 4))]) (kX0_stepped l g cs ad (rd σ53 (b + 3) y1_53) r5 σ5) mwX0_stepped w653 ⟨rfl, rfl⟩ ⟨(Nat.le_of_ble_eq_true rfl), (Nat.le_of_ble_eq_true rfl)⟩ rfl rfl (Nat.le_of_ble_eq_true rfl) dX0_drift_69 (fun r6 hr6 => ?_)
        refine tr_iast C (n := 8) (σ' := wr σ5 (b + 4) y1_53 r6) (fl_4 hb) dX0_drift_72 rfl (fun h8 => ?_)
        refine tr_stp (fun σw7 eσw7 => ?_)
        refine tr_iinc C (i := 1) (d := 1) (lv' := [some (.ref (ad b)), some (.int (y1_53 + 1))]) dX0_drift_73 rfl (by decide) (by decide) rfl ?_
        refine tr_goto C (tgt := 2) dX0_drift_76 (by decide) ?_
        exact IH2 (σw7, y1_53 + 1)
      refine tr_if_eq C (tgt := 53) dX0_drift_42 (by decide) (fun q12 => ?_) (fun q12 => ?_)
      · exact B53 σw3 y1_2
      · refine tr_aload_n C (i := 0) dX0_drift_45 rfl rfl ?_
        refine tr_iload_n C (i := 1) dX0_drift_46 rfl rfl ?_
        refine tr_cVI C (av := [.int y1_2]) (st := []) (kX0_isFree l g cs ad b y1_2 hb σw3) mwX0_isFree w647 (fl_0 hb) rfl ⟨rfl, rfl⟩ ⟨(Nat.le_of_ble_eq_true rfl), (Nat.le_of_ble_eq_true rfl)⟩ rfl rfl (Nat.le_of_ble_eq_true rfl) dX0_drift_47 (fun r10 σ10 hr10 => ?_)
        refine tr_if_eq C (tgt := 73) dX0_drift_50 (by decide) (fun q11 => ?_) (fun q11 => ?_)
        · refine tr_iinc C (i := 1) (d := 1) (lv' := [some (.ref (ad b)), some (.int (y1_2 + 1))]) dX0_drift_73 rfl (by decide) (by decide) rfl ?_
          refine tr_goto C (tgt := 2) dX0_drift_76 (by decide) ?_
          exact IH2 (σ10, y1_2 + 1)
        · exact B53 σ10 y1_2
def fJ0_coder_7d493 (b : Nat) (σ : Mem) : Option (Int32) :=
  if (1 : Int32) = 0 then (
    some 1
  ) else (
    some 0
  )
set_option maxHeartbeats 4000000 in
set_option maxRecDepth 100000 in
theorem kJ0_coder_7d493 (l : Launch) (g : GG) (cs : CS) (ad : Nat → Nat) (b : Nat) (hb : b < 13) (σ : Mem) : CtI l g cs ad (shC g) mJ0_coder_7d493 (.code mJ0_coder_7d493 cJ0_coder_7d493 1 (some .byte)) { frames := 0, cells := 0, slots := 0, locals := 0 } [.ref (cs.2.1 b)] σ (pur (fJ0_coder_7d493 b σ) σ) := by
  refine ctIP_intro (own := "java/lang/String") (by decide +kernel) rfl [some (.ref (cs.2.1 b))] (Nat.le_of_ble_eq_true rfl) rfl ?_
  intro p e s m args below meth c A C hr hlk
  refine tr_gCS C w473 dJ0_coder_7d493_0 ?_
  refine tr_if_eq C (tgt := 13) dJ0_coder_7d493_3 (by decide) (fun q1 => ?_) (fun q1 => ?_)
  · refine tr_iconst C (v := 1) dJ0_coder_7d493_13 (by decide) ?_
    exact tr_bret C hr hlk rfl dJ0_coder_7d493_14
  · refine tr_aload_n C (i := 0) dJ0_coder_7d493_6 rfl rfl ?_
    refine tr_scoder C hb w1451 dJ0_coder_7d493_7 ?_
    refine tr_goto C (tgt := 14) dJ0_coder_7d493_10 (by decide) ?_
    exact tr_bret C hr hlk rfl dJ0_coder_7d493_14
def fJ0_length_8abf5 (b : Nat) (σ : Mem) : Option (Int32) :=
  bn1 (fJ0_coder_7d493 b σ) fun r1 => (
    some ((Int32.ofNat (strL.getD b 0)) >>> (r1 &&& 31))
  )
set_option maxHeartbeats 4000000 in
set_option maxRecDepth 100000 in
theorem kJ0_length_8abf5 (l : Launch) (g : GG) (cs : CS) (ad : Nat → Nat) (b : Nat) (hb : b < 13) (σ : Mem) : CtI l g cs ad (shC g) mJ0_length_8abf5 (.code mJ0_length_8abf5 cJ0_length_8abf5 1 (some .int)) { frames := 1, cells := 0, slots := 0, locals := 20 } [.ref (cs.2.1 b)] σ (pur (fJ0_length_8abf5 b σ) σ) := by
  refine ctIP_intro (own := "java/lang/String") (by decide +kernel) rfl [some (.ref (cs.2.1 b))] (Nat.le_of_ble_eq_true rfl) rfl ?_
  intro p e s m args below meth c A C hr hlk
  refine tr_aload_n C (i := 0) dJ0_length_8abf5_0 rfl rfl ?_
  refine tr_svalue C hb w1450 dJ0_length_8abf5_1 ?_
  refine tr_slen C hb dJ0_length_8abf5_4 ?_
  refine tr_aload_n C (i := 0) dJ0_length_8abf5_5 rfl rfl ?_
  refine tr_cT C (av := []) (st := [.int (Int32.ofNat (strL.getD b 0))]) hb (kJ0_coder_7d493 l g cs ad b hb σ) mwJ0_coder_7d493 w469 ⟨rfl, rfl⟩ ⟨(Nat.le_of_ble_eq_true rfl), (Nat.le_of_ble_eq_true rfl)⟩ rfl rfl (Nat.le_of_ble_eq_true rfl) dJ0_length_8abf5_6 (fun r1 hr1 => ?_)
  refine tr_ishr C dJ0_length_8abf5_9 ?_
  exact tr_iretP C hr hlk dJ0_length_8abf5_10
def fJ0_isLatin1_aae02 (b : Nat) (σ : Mem) : Option (Int32) :=
  if (1 : Int32) = 0 then (
    some 0
  ) else (
    if (0 : Int32) = 0 then (
      some 1
    ) else (
      some 0
    )
  )
set_option maxHeartbeats 4000000 in
set_option maxRecDepth 100000 in
theorem kJ0_isLatin1_aae02 (l : Launch) (g : GG) (cs : CS) (ad : Nat → Nat) (b : Nat) (hb : b < 13) (σ : Mem) : CtI l g cs ad (shC g) mJ0_isLatin1_aae02 (.code mJ0_isLatin1_aae02 cJ0_isLatin1_aae02 1 (some .boolean)) { frames := 0, cells := 0, slots := 0, locals := 0 } [.ref (cs.2.1 b)] σ (pur (fJ0_isLatin1_aae02 b σ) σ) := by
  refine ctIP_intro (own := "java/lang/String") (by decide +kernel) rfl [some (.ref (cs.2.1 b))] (Nat.le_of_ble_eq_true rfl) rfl ?_
  intro p e s m args below meth c A C hr hlk
  refine tr_gCS C w473 dJ0_isLatin1_aae02_0 ?_
  refine tr_if_eq C (tgt := 17) dJ0_isLatin1_aae02_3 (by decide) (fun q2 => ?_) (fun q2 => ?_)
  · refine tr_iconst C (v := 0) dJ0_isLatin1_aae02_17 (by decide) ?_
    exact tr_zretP C hr hlk rfl dJ0_isLatin1_aae02_18
  · refine tr_aload_n C (i := 0) dJ0_isLatin1_aae02_6 rfl rfl ?_
    refine tr_scoder C hb w1451 dJ0_isLatin1_aae02_7 ?_
    refine tr_if_ne C (tgt := 17) dJ0_isLatin1_aae02_10 (by decide) (fun q1 => ?_) (fun q1 => ?_)
    · refine tr_iconst C (v := 1) dJ0_isLatin1_aae02_13 (by decide) ?_
      refine tr_goto C (tgt := 18) dJ0_isLatin1_aae02_14 (by decide) ?_
      exact tr_zretP C hr hlk rfl dJ0_isLatin1_aae02_18
    · refine tr_iconst C (v := 0) dJ0_isLatin1_aae02_17 (by decide) ?_
      exact tr_zretP C hr hlk rfl dJ0_isLatin1_aae02_18
def fJ3_checkIndex_8e157 (a1 : Int32) (a2 : Int32) (σ : Mem) : Option (Int32) :=
  if a1 < 0 then (
    none
  ) else (
    if a1 < a2 then (
      some a1
    ) else (
      none
    )
  )
set_option maxHeartbeats 4000000 in
set_option maxRecDepth 100000 in
theorem kJ3_checkIndex_8e157 (l : Launch) (g : GG) (cs : CS) (ad : Nat → Nat) (a1 : Int32) (a2 : Int32) (v3 : Value) (hv3 : v3.category = 1) (σ : Mem) : CtI l g cs ad (shC g) mJ3_checkIndex_8e157 (.code mJ3_checkIndex_8e157 cJ3_checkIndex_8e157 3 (some .int)) { frames := 0, cells := 0, slots := 0, locals := 0 } [.int a1, .int a2, v3] σ (pur (fJ3_checkIndex_8e157 a1 a2 σ) σ) := by
  refine ctIP_intro (own := "jdk/internal/util/Preconditions") (by decide +kernel) rfl [some (.int a1), some (.int a2), some (v3)] (lg_len1 (List.forall_mem_cons.mpr ⟨rfl, List.forall_mem_cons.mpr ⟨rfl, List.forall_mem_cons.mpr ⟨hv3, fun _ h => absurd h List.not_mem_nil⟩⟩⟩)) rfl ?_
  intro p e s m args below meth c A C hr hlk
  refine tr_iload_n C (i := 0) dJ3_checkIndex_8e157_0 rfl rfl ?_
  refine tr_if_lt C (tgt := 9) dJ3_checkIndex_8e157_1 (by decide) (fun q2 => ?_) (fun q2 => ?_)
  · exact tr_none
  · refine tr_iload_n C (i := 0) dJ3_checkIndex_8e157_4 rfl rfl ?_
    refine tr_iload_n C (i := 1) dJ3_checkIndex_8e157_5 rfl rfl ?_
    refine tr_icmp_lt C (tgt := 16) dJ3_checkIndex_8e157_6 (by decide) (fun q1 => ?_) (fun q1 => ?_)
    · refine tr_iload_n C (i := 0) dJ3_checkIndex_8e157_16 rfl rfl ?_
      exact tr_iretP C hr hlk dJ3_checkIndex_8e157_17
    · exact tr_none
def fJ0_checkIndex_df160 (a1 : Int32) (a2 : Int32) (σ : Mem) : Option (Unit) :=
  bn1 (fJ3_checkIndex_8e157 a1 a2 σ) fun r2 => (
    some ()
  )
set_option maxHeartbeats 4000000 in
set_option maxRecDepth 100000 in
theorem kJ0_checkIndex_df160 (l : Launch) (g : GG) (cs : CS) (ad : Nat → Nat) (a1 : Int32) (a2 : Int32) (σ : Mem) : CtV l g cs ad (shC g) mJ0_checkIndex_df160 (.code mJ0_checkIndex_df160 cJ0_checkIndex_df160 2 none) { frames := 1, cells := 0, slots := 0, locals := 22 } [.int a1, .int a2] σ (pu0 (fJ0_checkIndex_df160 a1 a2 σ) σ) := by
  refine ctU_intro (own := "java/lang/String") (by decide +kernel) rfl [some (.int a1), some (.int a2)] (Nat.le_of_ble_eq_true rfl) rfl ?_
  intro p e s m args below meth c A C hr hlk
  refine tr_iload_n C (i := 0) dJ0_checkIndex_df160_0 rfl rfl ?_
  refine tr_iload_n C (i := 1) dJ0_checkIndex_df160_1 rfl rfl ?_
  refine tr_gSIO C w489 dJ0_checkIndex_df160_2 (fun v1 hv1 => ?_)
  refine tr_cSIP C (av := [.int a1, .int a2, v1]) (st := []) (kJ3_checkIndex_8e157 l g cs ad a1 a2 v1 hv1 σ) mwJ3_checkIndex_8e157 w491 ⟨rfl, rfl⟩ ⟨(Nat.le_of_ble_eq_true rfl), (Nat.le_of_ble_eq_true rfl)⟩ rfl rfl (Nat.le_of_ble_eq_true rfl) dJ0_checkIndex_df160_5 (fun r2 hr2 => ?_)
  refine tr_pop C dJ0_checkIndex_df160_8 rfl ?_
  exact tr_vretP C hr hlk dJ0_checkIndex_df160_9
def fJ1_charAt_3b067 (b1 : Nat) (a2 : Int32) (σ : Mem) : Option (Int32) :=
  bn1 (fJ0_checkIndex_df160 a2 (Int32.ofNat (strL.getD b1 0)) σ) fun _ => (
    gd (inB a2 (strL.getD b1 0)) (
      gd (isC (((((strB.getD b1 []).getD a2.toNatClampNeg 0) &&& 255).toUInt32 % 65536).toInt32)) (some (((((strB.getD b1 []).getD a2.toNatClampNeg 0) &&& 255).toUInt32 % 65536).toInt32))
    )
  )
set_option maxHeartbeats 4000000 in
set_option maxRecDepth 100000 in
theorem kJ1_charAt_3b067 (l : Launch) (g : GG) (cs : CS) (ad : Nat → Nat) (b1 : Nat) (a2 : Int32) (hb1 : b1 < 13) (σ : Mem) : CtI l g cs ad (shC g) mJ1_charAt_3b067 (.code mJ1_charAt_3b067 cJ1_charAt_3b067 2 (some .char)) { frames := 2, cells := 0, slots := 0, locals := 43 } [.ref (cs.2.2 b1), .int a2] σ (pur (fJ1_charAt_3b067 b1 a2 σ) σ) := by
  refine ctIP_intro (own := "java/lang/StringLatin1") (by decide +kernel) rfl [some (.ref (cs.2.2 b1)), some (.int a2)] (Nat.le_of_ble_eq_true rfl) rfl ?_
  intro p e s m args below meth c A C hr hlk
  refine tr_iload_n C (i := 1) dJ1_charAt_3b067_0 rfl rfl ?_
  refine tr_aload_n C (i := 0) dJ1_charAt_3b067_1 rfl rfl ?_
  refine tr_slen C hb1 dJ1_charAt_3b067_2 ?_
  refine tr_cSVP C (av := [.int a2, .int (Int32.ofNat (strL.getD b1 0))]) (st := []) (kJ0_checkIndex_df160 l g cs ad a2 (Int32.ofNat (strL.getD b1 0)) σ) mwJ0_checkIndex_df160 w486 ⟨rfl, rfl⟩ ⟨(Nat.le_of_ble_eq_true rfl), (Nat.le_of_ble_eq_true rfl)⟩ rfl rfl (Nat.le_of_ble_eq_true rfl) dJ1_charAt_3b067_3 (fun _ hr1 => ?_)
  refine tr_aload_n C (i := 0) dJ1_charAt_3b067_6 rfl rfl ?_
  refine tr_iload_n C (i := 1) dJ1_charAt_3b067_7 rfl rfl ?_
  refine tr_sbald C hb1 dJ1_charAt_3b067_8 (fun h2 => ?_)
  refine tr_sipush C (v := 255) dJ1_charAt_3b067_9 (by decide) ?_
  refine tr_iand C dJ1_charAt_3b067_12 ?_
  refine tr_i2c C dJ1_charAt_3b067_13 ?_
  exact tr_cret C hr hlk dJ1_charAt_3b067_14
def fJ0_charAt_5068e (b : Nat) (a1 : Int32) (σ : Mem) : Option (Int32) :=
  bn1 (fJ0_isLatin1_aae02 b σ) fun r1 => (
    if r1 = 0 then (
      none
    ) else (
      bn1 (fJ1_charAt_3b067 b a1 σ) fun r2 => (
        gd (isC r2) (some r2)
      )
    )
  )
set_option maxHeartbeats 4000000 in
set_option maxRecDepth 100000 in
theorem kJ0_charAt_5068e (l : Launch) (g : GG) (cs : CS) (ad : Nat → Nat) (b : Nat) (a1 : Int32) (hb : b < 13) (σ : Mem) : CtI l g cs ad (shC g) mJ0_charAt_5068e (.code mJ0_charAt_5068e cJ0_charAt_5068e 2 (some .char)) { frames := 3, cells := 0, slots := 0, locals := 64 } [.ref (cs.2.1 b), .int a1] σ (pur (fJ0_charAt_5068e b a1 σ) σ) := by
  refine ctIP_intro (own := "java/lang/String") (by decide +kernel) rfl [some (.ref (cs.2.1 b)), some (.int a1)] (Nat.le_of_ble_eq_true rfl) rfl ?_
  intro p e s m args below meth c A C hr hlk
  refine tr_aload_n C (i := 0) dJ0_charAt_5068e_0 rfl rfl ?_
  refine tr_cT C (av := []) (st := []) hb (kJ0_isLatin1_aae02 l g cs ad b hb σ) mwJ0_isLatin1_aae02 w479 ⟨rfl, rfl⟩ ⟨(Nat.le_of_ble_eq_true rfl), (Nat.le_of_ble_eq_true rfl)⟩ rfl rfl (Nat.le_of_ble_eq_true rfl) dJ0_charAt_5068e_1 (fun r1 hr1 => ?_)
  refine tr_if_eq C (tgt := 16) dJ0_charAt_5068e_4 (by decide) (fun q3 => ?_) (fun q3 => ?_)
  · refine tr_aload_n C (i := 0) dJ0_charAt_5068e_16 rfl rfl ?_
    refine tr_svalue C hb w1450 dJ0_charAt_5068e_17 ?_
    refine tr_iload_n C (i := 1) dJ0_charAt_5068e_20 rfl rfl ?_
    exact tr_none
  · refine tr_aload_n C (i := 0) dJ0_charAt_5068e_7 rfl rfl ?_
    refine tr_svalue C hb w1450 dJ0_charAt_5068e_8 ?_
    refine tr_iload_n C (i := 1) dJ0_charAt_5068e_11 rfl rfl ?_
    refine tr_cSIP C (av := [.ref (cs.2.2 b), .int a1]) (st := []) (kJ1_charAt_3b067 l g cs ad b a1 hb σ) mwJ1_charAt_3b067 w483 ⟨rfl, rfl⟩ ⟨(Nat.le_of_ble_eq_true rfl), (Nat.le_of_ble_eq_true rfl)⟩ rfl rfl (Nat.le_of_ble_eq_true rfl) dJ0_charAt_5068e_12 (fun r2 hr2 => ?_)
    exact tr_cret C hr hlk dJ0_charAt_5068e_15
def fJ1_canEncode_9a6ad (a1 : Int32) (σ : Mem) : Option (Int32) :=
  if a1 < 0 then (
    some 0
  ) else (
    if 255 < a1 then (
      some 0
    ) else (
      some 1
    )
  )
set_option maxHeartbeats 4000000 in
set_option maxRecDepth 100000 in
theorem kJ1_canEncode_9a6ad (l : Launch) (g : GG) (cs : CS) (ad : Nat → Nat) (a1 : Int32) (σ : Mem) : CtI l g cs ad (shC g) mJ1_canEncode_9a6ad (.code mJ1_canEncode_9a6ad cJ1_canEncode_9a6ad 1 (some .boolean)) { frames := 0, cells := 0, slots := 0, locals := 0 } [.int a1] σ (pur (fJ1_canEncode_9a6ad a1 σ) σ) := by
  refine ctIP_intro (own := "java/lang/StringLatin1") (by decide +kernel) rfl [some (.int a1)] (Nat.le_of_ble_eq_true rfl) rfl ?_
  intro p e s m args below meth c A C hr hlk
  refine tr_iload_n C (i := 0) dJ1_canEncode_9a6ad_0 rfl rfl ?_
  refine tr_if_lt C (tgt := 15) dJ1_canEncode_9a6ad_1 (by decide) (fun q2 => ?_) (fun q2 => ?_)
  · refine tr_iconst C (v := 0) dJ1_canEncode_9a6ad_15 (by decide) ?_
    exact tr_zretP C hr hlk rfl dJ1_canEncode_9a6ad_16
  · refine tr_iload_n C (i := 0) dJ1_canEncode_9a6ad_4 rfl rfl ?_
    refine tr_sipush C (v := 255) dJ1_canEncode_9a6ad_5 (by decide) ?_
    refine tr_icmp_gt C (tgt := 15) dJ1_canEncode_9a6ad_8 (by decide) (fun q1 => ?_) (fun q1 => ?_)
    · refine tr_iconst C (v := 0) dJ1_canEncode_9a6ad_15 (by decide) ?_
      exact tr_zretP C hr hlk rfl dJ1_canEncode_9a6ad_16
    · refine tr_iconst C (v := 1) dJ1_canEncode_9a6ad_11 (by decide) ?_
      refine tr_goto C (tgt := 16) dJ1_canEncode_9a6ad_12 (by decide) ?_
      exact tr_zretP C hr hlk rfl dJ1_canEncode_9a6ad_16
def fJ1_indexOfChar_4cfef_L7 (b1 : Nat) (a2 : Int32) (a3 : Int32) (a4 : Int32) (σ : Mem) (ih7 : Int32 × Int32 → Option (Int32)) : Int32 × Int32 → Option (Int32) := fun v => match v with
  | (y4_7, y5_7) =>
    if a4 ≤ y5_7 then (
      some (-1)
    ) else (
      gd (inB y5_7 (strL.getD b1 0)) (
        if ((strB.getD b1 []).getD y5_7.toNatClampNeg 0) = y4_7 then (
          some y5_7
        ) else (
          ih7 (y4_7, y5_7 + 1)
        )
      )
    )
def fJ1_indexOfChar_4cfef (b1 : Nat) (a2 : Int32) (a3 : Int32) (a4 : Int32) (σ : Mem) : Option (Int32) :=
  loopN (fJ1_indexOfChar_4cfef_L7 b1 a2 a3 a4 σ) 1000 (a2.toInt8.toInt32, a3)
set_option maxHeartbeats 4000000 in
set_option maxRecDepth 100000 in
theorem kJ1_indexOfChar_4cfef (l : Launch) (g : GG) (cs : CS) (ad : Nat → Nat) (b1 : Nat) (a2 : Int32) (a3 : Int32) (a4 : Int32) (hb1 : b1 < 13) (σ : Mem) : CtI l g cs ad (shC g) mJ1_indexOfChar_4cfef (.code mJ1_indexOfChar_4cfef cJ1_indexOfChar_4cfef 6 (some .int)) { frames := 0, cells := 0, slots := 0, locals := 0 } [.ref (cs.2.2 b1), .int a2, .int a3, .int a4] σ (pur (fJ1_indexOfChar_4cfef b1 a2 a3 a4 σ) σ) := by
  refine ctIP_intro (own := "java/lang/StringLatin1") (by decide +kernel) rfl [some (.ref (cs.2.2 b1)), some (.int a2), some (.int a3), some (.int a4), none, none] (Nat.le_of_ble_eq_true rfl) rfl ?_
  intro p e s m args below meth c A C hr hlk
  refine tr_iload_n C (i := 1) dJ1_indexOfChar_4cfef_0 rfl rfl ?_
  refine tr_i2b C dJ1_indexOfChar_4cfef_1 ?_
  refine tr_istore C (i := 4) (lv' := [some (.ref (cs.2.2 b1)), some (.int a2), some (.int a3), some (.int a4), some (.int a2.toInt8.toInt32), none]) dJ1_indexOfChar_4cfef_2 (by decide) rfl ?_
  refine tr_iload_n C (i := 2) dJ1_indexOfChar_4cfef_4 rfl rfl ?_
  refine tr_istore C (i := 5) (lv' := [some (.ref (cs.2.2 b1)), some (.int a2), some (.int a3), some (.int a4), some (.int a2.toInt8.toInt32), some (.int a3)]) dJ1_indexOfChar_4cfef_5 (by decide) rfl ?_
  refine tr_mask [true, false, false, true, true, true] rfl ?_
  refine tr_loop (b := fJ1_indexOfChar_4cfef_L7 b1 a2 a3 a4 σ) (sg := fun v => σ) (lw := fun v => [some (.ref (cs.2.2 b1)), none, none, some (.int a4), some (.int v.1), some (.int v.2)]) (sw := fun v => []) (fun ih7 IH7 v => ?_) 1000 (a2.toInt8.toInt32, a3)
  obtain ⟨y4_7, y5_7⟩ := v
  refine tr_st (σ' := σ) (lv' := [some (.ref (cs.2.2 b1)), none, none, some (.int a4), some (.int y4_7), some (.int y5_7)]) (st' := []) rfl rfl rfl ?_
  refine tr_iload C (i := 5) dJ1_indexOfChar_4cfef_7 rfl ?_
  refine tr_iload_n C (i := 3) dJ1_indexOfChar_4cfef_9 rfl rfl ?_
  refine tr_icmp_ge C (tgt := 31) dJ1_indexOfChar_4cfef_10 (by decide) (fun q3 => ?_) (fun q3 => ?_)
  · refine tr_iconst C (v := -1) dJ1_indexOfChar_4cfef_31 (by decide) ?_
    exact tr_iretP C hr hlk dJ1_indexOfChar_4cfef_32
  · refine tr_aload_n C (i := 0) dJ1_indexOfChar_4cfef_13 rfl rfl ?_
    refine tr_iload C (i := 5) dJ1_indexOfChar_4cfef_14 rfl ?_
    refine tr_sbald C hb1 dJ1_indexOfChar_4cfef_16 (fun h2 => ?_)
    refine tr_iload C (i := 4) dJ1_indexOfChar_4cfef_17 rfl ?_
    refine tr_icmp_ne C (tgt := 25) dJ1_indexOfChar_4cfef_19 (by decide) (fun q1 => ?_) (fun q1 => ?_)
    · refine tr_iload C (i := 5) dJ1_indexOfChar_4cfef_22 rfl ?_
      exact tr_iretP C hr hlk dJ1_indexOfChar_4cfef_24
    · refine tr_iinc C (i := 5) (d := 1) (lv' := [some (.ref (cs.2.2 b1)), none, none, some (.int a4), some (.int y4_7), some (.int (y5_7 + 1))]) dJ1_indexOfChar_4cfef_25 rfl (by decide) (by decide) rfl ?_
      refine tr_goto C (tgt := 7) dJ1_indexOfChar_4cfef_28 (by decide) ?_
      exact IH7 (y4_7, y5_7 + 1)
def fJ1_indexOf_4cfef (b1 : Nat) (a2 : Int32) (a3 : Int32) (a4 : Int32) (σ : Mem) : Option (Int32) :=
  bn1 (fJ1_canEncode_9a6ad a2 σ) fun r1 => (
    if r1 = 0 then (
      some (-1)
    ) else (
      if (if a3 < 0 then 0 else a3) < (if (Int32.ofNat (strL.getD b1 0)) < a4 then (Int32.ofNat (strL.getD b1 0)) else a4) then (
        bn1 (fJ1_indexOfChar_4cfef b1 a2 (if a3 < 0 then 0 else a3) (if (Int32.ofNat (strL.getD b1 0)) < a4 then (Int32.ofNat (strL.getD b1 0)) else a4) σ) fun r2 => (
          some r2
        )
      ) else (
        some (-1)
      )
    )
  )
set_option maxHeartbeats 4000000 in
set_option maxRecDepth 100000 in
theorem kJ1_indexOf_4cfef (l : Launch) (g : GG) (cs : CS) (ad : Nat → Nat) (b1 : Nat) (a2 : Int32) (a3 : Int32) (a4 : Int32) (hb1 : b1 < 13) (σ : Mem) : CtI l g cs ad (shC g) mJ1_indexOf_4cfef (.code mJ1_indexOf_4cfef cJ1_indexOf_4cfef 4 (some .int)) { frames := 1, cells := 0, slots := 0, locals := 25 } [.ref (cs.2.2 b1), .int a2, .int a3, .int a4] σ (pur (fJ1_indexOf_4cfef b1 a2 a3 a4 σ) σ) := by
  refine ctIP_intro (own := "java/lang/StringLatin1") (by decide +kernel) rfl [some (.ref (cs.2.2 b1)), some (.int a2), some (.int a3), some (.int a4)] (Nat.le_of_ble_eq_true rfl) rfl ?_
  intro p e s m args below meth c A C hr hlk
  refine tr_iload_n C (i := 1) dJ1_indexOf_4cfef_0 rfl rfl ?_
  refine tr_cSIP C (av := [.int a2]) (st := []) (kJ1_canEncode_9a6ad l g cs ad a2 σ) mwJ1_canEncode_9a6ad w530 ⟨rfl, rfl⟩ ⟨(Nat.le_of_ble_eq_true rfl), (Nat.le_of_ble_eq_true rfl)⟩ rfl rfl (Nat.le_of_ble_eq_true rfl) dJ1_indexOf_4cfef_1 (fun r1 hr1 => ?_)
  refine tr_if_ne C (tgt := 9) dJ1_indexOf_4cfef_4 (by decide) (fun q4 => ?_) (fun q4 => ?_)
  · refine tr_iconst C (v := -1) dJ1_indexOf_4cfef_7 (by decide) ?_
    exact tr_iretP C hr hlk dJ1_indexOf_4cfef_8
  · refine tr_iload_n C (i := 2) dJ1_indexOf_4cfef_9 rfl rfl ?_
    refine tr_iconst C (v := 0) dJ1_indexOf_4cfef_10 (by decide) ?_
    refine tr_mmax C w533 (Nat.le_of_ble_eq_true rfl) (Nat.le_of_ble_eq_true rfl) dJ1_indexOf_4cfef_11 ?_
    refine tr_istore_n C (i := 2) (lv' := [some (.ref (cs.2.2 b1)), some (.int a2), some (.int (if a3 < 0 then 0 else a3)), some (.int a4)]) dJ1_indexOf_4cfef_14 rfl (by decide) rfl ?_
    refine tr_iload_n C (i := 3) dJ1_indexOf_4cfef_15 rfl rfl ?_
    refine tr_aload_n C (i := 0) dJ1_indexOf_4cfef_16 rfl rfl ?_
    refine tr_slen C hb1 dJ1_indexOf_4cfef_17 ?_
    refine tr_mmin C w534 (Nat.le_of_ble_eq_true rfl) (Nat.le_of_ble_eq_true rfl) dJ1_indexOf_4cfef_18 ?_
    refine tr_istore_n C (i := 3) (lv' := [some (.ref (cs.2.2 b1)), some (.int a2), some (.int (if a3 < 0 then 0 else a3)), some (.int (if (Int32.ofNat (strL.getD b1 0)) < a4 then (Int32.ofNat (strL.getD b1 0)) else a4))]) dJ1_indexOf_4cfef_21 rfl (by decide) rfl ?_
    refine tr_iload_n C (i := 2) dJ1_indexOf_4cfef_22 rfl rfl ?_
    refine tr_iload_n C (i := 3) dJ1_indexOf_4cfef_23 rfl rfl ?_
    refine tr_icmp_lt C (tgt := 29) dJ1_indexOf_4cfef_24 (by decide) (fun q3 => ?_) (fun q3 => ?_)
    · refine tr_aload_n C (i := 0) dJ1_indexOf_4cfef_29 rfl rfl ?_
      refine tr_iload_n C (i := 1) dJ1_indexOf_4cfef_30 rfl rfl ?_
      refine tr_iload_n C (i := 2) dJ1_indexOf_4cfef_31 rfl rfl ?_
      refine tr_iload_n C (i := 3) dJ1_indexOf_4cfef_32 rfl rfl ?_
      refine tr_cSIP C (av := [.ref (cs.2.2 b1), .int a2, .int (if a3 < 0 then 0 else a3), .int (if (Int32.ofNat (strL.getD b1 0)) < a4 then (Int32.ofNat (strL.getD b1 0)) else a4)]) (st := []) (kJ1_indexOfChar_4cfef l g cs ad b1 a2 (if a3 < 0 then 0 else a3) (if (Int32.ofNat (strL.getD b1 0)) < a4 then (Int32.ofNat (strL.getD b1 0)) else a4) hb1 σ) mwJ1_indexOfChar_4cfef w535 ⟨rfl, rfl⟩ ⟨(Nat.le_of_ble_eq_true rfl), (Nat.le_of_ble_eq_true rfl)⟩ rfl rfl (Nat.le_of_ble_eq_true rfl) dJ1_indexOf_4cfef_33 (fun r2 hr2 => ?_)
      exact tr_iretP C hr hlk dJ1_indexOf_4cfef_36
    · refine tr_iconst C (v := -1) dJ1_indexOf_4cfef_27 (by decide) ?_
      exact tr_iretP C hr hlk dJ1_indexOf_4cfef_28
def fJ0_indexOf_7cf53 (b : Nat) (a1 : Int32) (a2 : Int32) (σ : Mem) : Option (Int32) :=
  bn1 (fJ0_isLatin1_aae02 b σ) fun r1 => (
    if r1 = 0 then (
      bn1 (fJ0_length_8abf5 b σ) fun r2 => (
        none
      )
    ) else (
      bn1 (fJ0_length_8abf5 b σ) fun r3 => (
        bn1 (fJ1_indexOf_4cfef b a1 a2 r3 σ) fun r4 => (
          some r4
        )
      )
    )
  )
set_option maxHeartbeats 4000000 in
set_option maxRecDepth 100000 in
theorem kJ0_indexOf_7cf53 (l : Launch) (g : GG) (cs : CS) (ad : Nat → Nat) (b : Nat) (a1 : Int32) (a2 : Int32) (hb : b < 13) (σ : Mem) : CtI l g cs ad (shC g) mJ0_indexOf_7cf53 (.code mJ0_indexOf_7cf53 cJ0_indexOf_7cf53 3 (some .int)) { frames := 2, cells := 0, slots := 0, locals := 48 } [.ref (cs.2.1 b), .int a1, .int a2] σ (pur (fJ0_indexOf_7cf53 b a1 a2 σ) σ) := by
  refine ctIP_intro (own := "java/lang/String") (by decide +kernel) rfl [some (.ref (cs.2.1 b)), some (.int a1), some (.int a2)] (Nat.le_of_ble_eq_true rfl) rfl ?_
  intro p e s m args below meth c A C hr hlk
  refine tr_aload_n C (i := 0) dJ0_indexOf_7cf53_0 rfl rfl ?_
  refine tr_cT C (av := []) (st := []) hb (kJ0_isLatin1_aae02 l g cs ad b hb σ) mwJ0_isLatin1_aae02 w479 ⟨rfl, rfl⟩ ⟨(Nat.le_of_ble_eq_true rfl), (Nat.le_of_ble_eq_true rfl)⟩ rfl rfl (Nat.le_of_ble_eq_true rfl) dJ0_indexOf_7cf53_1 (fun r1 hr1 => ?_)
  refine tr_if_eq C (tgt := 23) dJ0_indexOf_7cf53_4 (by decide) (fun q5 => ?_) (fun q5 => ?_)
  · refine tr_aload_n C (i := 0) dJ0_indexOf_7cf53_23 rfl rfl ?_
    refine tr_svalue C hb w1450 dJ0_indexOf_7cf53_24 ?_
    refine tr_iload_n C (i := 1) dJ0_indexOf_7cf53_27 rfl rfl ?_
    refine tr_iload_n C (i := 2) dJ0_indexOf_7cf53_28 rfl rfl ?_
    refine tr_aload_n C (i := 0) dJ0_indexOf_7cf53_29 rfl rfl ?_
    refine tr_cT C (av := []) (st := [.int a2, .int a1, .ref (cs.2.2 b)]) hb (kJ0_length_8abf5 l g cs ad b hb σ) mwJ0_length_8abf5 w526 ⟨rfl, rfl⟩ ⟨(Nat.le_of_ble_eq_true rfl), (Nat.le_of_ble_eq_true rfl)⟩ rfl rfl (Nat.le_of_ble_eq_true rfl) dJ0_indexOf_7cf53_30 (fun r2 hr2 => ?_)
    exact tr_none
  · refine tr_aload_n C (i := 0) dJ0_indexOf_7cf53_7 rfl rfl ?_
    refine tr_svalue C hb w1450 dJ0_indexOf_7cf53_8 ?_
    refine tr_iload_n C (i := 1) dJ0_indexOf_7cf53_11 rfl rfl ?_
    refine tr_iload_n C (i := 2) dJ0_indexOf_7cf53_12 rfl rfl ?_
    refine tr_aload_n C (i := 0) dJ0_indexOf_7cf53_13 rfl rfl ?_
    refine tr_cT C (av := []) (st := [.int a2, .int a1, .ref (cs.2.2 b)]) hb (kJ0_length_8abf5 l g cs ad b hb σ) mwJ0_length_8abf5 w526 ⟨rfl, rfl⟩ ⟨(Nat.le_of_ble_eq_true rfl), (Nat.le_of_ble_eq_true rfl)⟩ rfl rfl (Nat.le_of_ble_eq_true rfl) dJ0_indexOf_7cf53_14 (fun r3 hr3 => ?_)
    refine tr_cSIP C (av := [.ref (cs.2.2 b), .int a1, .int a2, .int r3]) (st := []) (kJ1_indexOf_4cfef l g cs ad b a1 a2 r3 hb σ) mwJ1_indexOf_4cfef w527 ⟨rfl, rfl⟩ ⟨(Nat.le_of_ble_eq_true rfl), (Nat.le_of_ble_eq_true rfl)⟩ rfl rfl (Nat.le_of_ble_eq_true rfl) dJ0_indexOf_7cf53_17 (fun r4 hr4 => ?_)
    refine tr_goto C (tgt := 36) dJ0_indexOf_7cf53_20 (by decide) ?_
    exact tr_iretP C hr hlk dJ0_indexOf_7cf53_36
def fJ0_indexOf_0f7a4 (b : Nat) (a1 : Int32) (σ : Mem) : Option (Int32) :=
  bn1 (fJ0_indexOf_7cf53 b a1 0 σ) fun r1 => (
    some r1
  )
set_option maxHeartbeats 4000000 in
set_option maxRecDepth 100000 in
theorem kJ0_indexOf_0f7a4 (l : Launch) (g : GG) (cs : CS) (ad : Nat → Nat) (b : Nat) (a1 : Int32) (hb : b < 13) (σ : Mem) : CtI l g cs ad (shC g) mJ0_indexOf_0f7a4 (.code mJ0_indexOf_0f7a4 cJ0_indexOf_0f7a4 2 (some .int)) { frames := 3, cells := 0, slots := 0, locals := 70 } [.ref (cs.2.1 b), .int a1] σ (pur (fJ0_indexOf_0f7a4 b a1 σ) σ) := by
  refine ctIP_intro (own := "java/lang/String") (by decide +kernel) rfl [some (.ref (cs.2.1 b)), some (.int a1)] (Nat.le_of_ble_eq_true rfl) rfl ?_
  intro p e s m args below meth c A C hr hlk
  refine tr_aload_n C (i := 0) dJ0_indexOf_0f7a4_0 rfl rfl ?_
  refine tr_iload_n C (i := 1) dJ0_indexOf_0f7a4_1 rfl rfl ?_
  refine tr_iconst C (v := 0) dJ0_indexOf_0f7a4_2 (by decide) ?_
  refine tr_cT C (av := [.int a1, .int 0]) (st := []) hb (kJ0_indexOf_7cf53 l g cs ad b a1 0 hb σ) mwJ0_indexOf_7cf53 w522 ⟨rfl, rfl⟩ ⟨(Nat.le_of_ble_eq_true rfl), (Nat.le_of_ble_eq_true rfl)⟩ rfl rfl (Nat.le_of_ble_eq_true rfl) dJ0_indexOf_0f7a4_3 (fun r1 hr1 => ?_)
  exact tr_iretP C hr hlk dJ0_indexOf_0f7a4_6
