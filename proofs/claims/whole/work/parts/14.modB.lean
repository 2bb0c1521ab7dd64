def fX5_part_b34 (a1 : Int32) (σ34 : Mem) (z0_34 : Int32) : Option (Int32 × Mem) :=
  bn1 (fX5_isSign 59 σ34) fun r2 => (
    if r2 = 0 then (
      bn1 (fX5_fail σ34) fun σ5 => (
        if (σ5.1 0 27) = 0 then (
          bn1 (fX5_next σ5) fun σ6 => (
            some (z0_34, σ6)
          )
        ) else (
          some (z0_34, σ5)
        )
      )
    ) else (
      if (σ34.1 0 27) = 0 then (
        bn1 (fX5_next σ34) fun σ3 => (
          some (z0_34, σ3)
        )
      ) else (
        some (z0_34, σ34)
      )
    )
  )
def fX5_part_b19 (a1 : Int32) (σ19 : Mem) : Option (Int32 × Mem) :=
  if (σ19.1 0 27) = 0 then (
    bnd (fX5_P 64 5 σ19) fun r1 σ1 => (
      fX5_part_b34 a1 σ1 r1
    )
  ) else (
    fX5_part_b34 a1 σ19 0
  )
def fX5_part_b8 (a1 : Int32) (σ8 : Mem) : Option (Int32 × Mem) :=
  if (σ8.1 0 27) = 0 then (
    bn1 (fX5_next σ8) fun σ10 => (
      fX5_part_b19 a1 σ10
    )
  ) else (
    fX5_part_b19 a1 σ8
  )
def fX5_part (a1 : Int32) (σ : Mem) : Option (Int32 × Mem) :=
  if a1 = 0 then (
    bn1 (fX5_fail σ) fun σ12 => (
      fX5_part_b8 a1 σ12
    )
  ) else (
    fX5_part_b8 a1 σ
  )
set_option maxHeartbeats 4000000 in
set_option maxRecDepth 100000 in
theorem kX5_part (l : Launch) (g : GG) (cs : CS) (ad : Nat → Nat) (a1 : Int32) (σ : Mem) : CtI l g cs ad (shM g) mX5_part (.code mX5_part cX5_part 3 (some .int)) { frames := 73, cells := 0, slots := 0, locals := 2782 } [.ref (ad 0), .int a1] σ (fX5_part a1 σ) := by
  refine ctI_intro (own := "KinInTheHeapModel") (by decide +kernel) rfl [some (.ref (ad 0)), some (.int a1), none] (Nat.le_of_ble_eq_true rfl) rfl ?_
  intro p e s m args below meth c A C hr hlk
  refine tr_iload_n C (i := 1) dX5_part_0 rfl rfl ?_
  have B8 : ∀ (σ8 : Mem), Tr p l e { frames := 73, cells := 0, slots := 0, locals := 2782 } s m args below meth c g ad (shM g) A 3 (QI g ad (shM g) A below args s) (fX5_part_b8 a1 σ8) σ8 8 [some (.ref (ad 0)), none, none] [] := by
    intro σ8
    refine tr_aload_n C (i := 0) dX5_part_8 rfl rfl ?_
    refine tr_getI C (k := 27) (ci := 5) rfl rfl rfl inT5 rfl (by decide) w975 dX5_part_9 ?_
    have B19 : ∀ (σ19 : Mem), Tr p l e { frames := 73, cells := 0, slots := 0, locals := 2782 } s m args below meth c g ad (shM g) A 3 (QI g ad (shM g) A below args s) (fX5_part_b19 a1 σ19) σ19 19 [some (.ref (ad 0)), none, none] [] := by
      intro σ19
      refine tr_aload_n C (i := 0) dX5_part_19 rfl rfl ?_
      refine tr_getI C (k := 27) (ci := 5) rfl rfl rfl inT5 rfl (by decide) w975 dX5_part_20 ?_
      have B34 : ∀ (σ34 : Mem) (z0_34 : Int32), Tr p l e { frames := 73, cells := 0, slots := 0, locals := 2782 } s m args below meth c g ad (shM g) A 3 (QI g ad (shM g) A below args s) (fX5_part_b34 a1 σ34 z0_34) σ34 34 [some (.ref (ad 0)), none, none] [.int z0_34] := by
        intro σ34 z0_34
        refine tr_istore_n C (i := 2) (lv' := [some (.ref (ad 0)), none, some (.int z0_34)]) dX5_part_34 rfl (by decide) rfl ?_
        refine tr_aload_n C (i := 0) dX5_part_35 rfl rfl ?_
        refine tr_bipush C (v := 59) dX5_part_36 (by decide) ?_
        refine tr_cVIP C (av := [.int 59]) (st := []) (kX5_isSign l g cs ad 59 σ34) mwX5_isSign w1187 rfl rfl ⟨rfl, rfl⟩ ⟨(Nat.le_of_ble_eq_true rfl), (Nat.le_of_ble_eq_true rfl)⟩ rfl rfl (Nat.le_of_ble_eq_true rfl) dX5_part_38 (fun r2 hr2 => ?_)
        refine tr_if_ne C (tgt := 48) dX5_part_41 (by decide) (fun q8 => ?_) (fun q8 => ?_)
        · refine tr_aload_n C (i := 0) dX5_part_44 rfl rfl ?_
          refine tr_cVV C (av := []) (st := []) (kX5_fail l g cs ad σ34) mwX5_fail w1155 rfl rfl ⟨rfl, rfl⟩ ⟨(Nat.le_of_ble_eq_true rfl), (Nat.le_of_ble_eq_true rfl)⟩ rfl rfl (Nat.le_of_ble_eq_true rfl) dX5_part_45 (fun σ5 hr5 => ?_)
          refine tr_aload_n C (i := 0) dX5_part_48 rfl rfl ?_
          refine tr_getI C (k := 27) (ci := 5) rfl rfl rfl inT5 rfl (by decide) w975 dX5_part_49 ?_
          refine tr_if_ne C (tgt := 59) dX5_part_52 (by decide) (fun q7 => ?_) (fun q7 => ?_)
          · refine tr_aload_n C (i := 0) dX5_part_55 rfl rfl ?_
            refine tr_cVV C (av := []) (st := []) (kX5_next l g cs ad σ5) mwX5_next w1131 rfl rfl ⟨rfl, rfl⟩ ⟨(Nat.le_of_ble_eq_true rfl), (Nat.le_of_ble_eq_true rfl)⟩ rfl rfl (Nat.le_of_ble_eq_true rfl) dX5_part_56 (fun σ6 hr6 => ?_)
            refine tr_iload_n C (i := 2) dX5_part_59 rfl rfl ?_
            exact tr_iret C hr hlk dX5_part_60
          · refine tr_iload_n C (i := 2) dX5_part_59 rfl rfl ?_
            exact tr_iret C hr hlk dX5_part_60
        · refine tr_aload_n C (i := 0) dX5_part_48 rfl rfl ?_
          refine tr_getI C (k := 27) (ci := 5) rfl rfl rfl inT5 rfl (by decide) w975 dX5_part_49 ?_
          refine tr_if_ne C (tgt := 59) dX5_part_52 (by decide) (fun q4 => ?_) (fun q4 => ?_)
          · refine tr_aload_n C (i := 0) dX5_part_55 rfl rfl ?_
            refine tr_cVV C (av := []) (st := []) (kX5_next l g cs ad σ34) mwX5_next w1131 rfl rfl ⟨rfl, rfl⟩ ⟨(Nat.le_of_ble_eq_true rfl), (Nat.le_of_ble_eq_true rfl)⟩ rfl rfl (Nat.le_of_ble_eq_true rfl) dX5_part_56 (fun σ3 hr3 => ?_)
            refine tr_iload_n C (i := 2) dX5_part_59 rfl rfl ?_
            exact tr_iret C hr hlk dX5_part_60
          · refine tr_iload_n C (i := 2) dX5_part_59 rfl rfl ?_
            exact tr_iret C hr hlk dX5_part_60
      refine tr_if_eq C (tgt := 30) dX5_part_23 (by decide) (fun q9 => ?_) (fun q9 => ?_)
      · refine tr_aload_n C (i := 0) dX5_part_30 rfl rfl ?_
        refine tr_cVI C (av := []) (st := []) ((kX5_P l g cs ad 64).2.2.2.2.2 σ19) mwX5_either w1159 rfl rfl ⟨rfl, rfl⟩ ⟨(Nat.le_of_ble_eq_true rfl), (Nat.le_of_ble_eq_true rfl)⟩ rfl rfl (Nat.le_of_ble_eq_true rfl) dX5_part_31 (fun r1 σ1 hr1 => ?_)
        exact B34 σ1 r1
      · refine tr_iconst C (v := 0) dX5_part_26 (by decide) ?_
        refine tr_goto C (tgt := 34) dX5_part_27 (by decide) ?_
        exact B34 σ19 0
    refine tr_if_ne C (tgt := 19) dX5_part_12 (by decide) (fun q11 => ?_) (fun q11 => ?_)
    · refine tr_aload_n C (i := 0) dX5_part_15 rfl rfl ?_
      refine tr_cVV C (av := []) (st := []) (kX5_next l g cs ad σ8) mwX5_next w1131 rfl rfl ⟨rfl, rfl⟩ ⟨(Nat.le_of_ble_eq_true rfl), (Nat.le_of_ble_eq_true rfl)⟩ rfl rfl (Nat.le_of_ble_eq_true rfl) dX5_part_16 (fun σ10 hr10 => ?_)
      exact B19 σ10
    · exact B19 σ8
  refine tr_if_ne C (tgt := 8) dX5_part_1 (by decide) (fun q13 => ?_) (fun q13 => ?_)
  · refine tr_aload_n C (i := 0) dX5_part_4 rfl rfl ?_
    refine tr_cVV C (av := []) (st := []) (kX5_fail l g cs ad σ) mwX5_fail w1155 rfl rfl ⟨rfl, rfl⟩ ⟨(Nat.le_of_ble_eq_true rfl), (Nat.le_of_ble_eq_true rfl)⟩ rfl rfl (Nat.le_of_ble_eq_true rfl) dX5_part_5 (fun σ12 hr12 => ?_)
    refine tr_mask [true, false, false] rfl ?_
    exact B8 σ12
  · refine tr_mask [true, false, false] rfl ?_
    exact B8 σ
def fX5_read_b125 (a1 : Int32) (a2 : Int32) (σ125 : Mem) (y3_125 : Int32) (y4_125 : Int32) (z0_125 : Int32) : Option (Int32 × Mem) :=
  if (σ125.1 0 27) = 0 then (
    if (σ125.1 0 23) = 0 then (
      if a2 = 0 then (
        some (y3_125, σ125)
      ) else (
        if a2 = 1 then (
          some (y4_125, σ125)
        ) else (
          some (z0_125, σ125)
        )
      )
    ) else (
      bn1 (fX5_fail σ125) fun σ17 => (
        if a2 = 0 then (
          some (y3_125, σ17)
        ) else (
          if a2 = 1 then (
            some (y4_125, σ17)
          ) else (
            some (z0_125, σ17)
          )
        )
      )
    )
  ) else (
    if a2 = 0 then (
      some (y3_125, σ125)
    ) else (
      if a2 = 1 then (
        some (y4_125, σ125)
      ) else (
        some (z0_125, σ125)
      )
    )
  )
def fX5_read_b91 (a1 : Int32) (a2 : Int32) (σ91 : Mem) (y3_91 : Int32) (z0_91 : Int32) : Option (Int32 × Mem) :=
  if (σ91.1 0 27) = 0 then (
    bn1 (fX5_isWord 100 114 97 119 115 0 0 0 σ91) fun r11 => (
      bnd (fX5_part r11 σ91) fun r12 σ12 => (
        fX5_read_b125 a1 a2 σ12 y3_91 z0_91 r12
      )
    )
  ) else (
    fX5_read_b125 a1 a2 σ91 y3_91 z0_91 0
  )
def fX5_read (a1 : Int32) (a2 : Int32) (σ : Mem) : Option (Int32 × Mem) :=
  stp (putI σ 0 20 (160 * a1)) fun σw1 => (
    gd (inB a1 6) (
      stp (putI σw1 0 21 (rd σw1 2 a1)) fun σw2 => (
        stp (putI σw2 0 22 0) fun σw3 => (
          stp (putI σw3 0 26 0) fun σw4 => (
            stp (putI σw4 0 27 0) fun σw5 => (
              bn1 (fX5_next σw5) fun σ6 => (
                bn1 (fX5_isWord 103 111 101 115 0 0 0 0 σ6) fun r7 => (
                  bnd (fX5_part r7 σ6) fun r8 σ8 => (
                    if (σ8.1 0 27) = 0 then (
                      bn1 (fX5_isWord 102 114 101 101 115 0 0 0 σ8) fun r9 => (
                        bnd (fX5_part r9 σ8) fun r10 σ10 => (
                          fX5_read_b91 a1 a2 σ10 r8 r10
                        )
                      )
                    ) else (
                      fX5_read_b91 a1 a2 σ8 r8 0
                    )
                  )
                )
              )
            )
          )
        )
      )
    )
  )
set_option maxHeartbeats 4000000 in
set_option maxRecDepth 100000 in
theorem kX5_read (l : Launch) (g : GG) (cs : CS) (ad : Nat → Nat) (a1 : Int32) (a2 : Int32) (σ : Mem) : CtI l g cs ad (shM g) mX5_read (.code mX5_read cX5_read 6 (some .int)) { frames := 74, cells := 0, slots := 0, locals := 2804 } [.ref (ad 0), .int a1, .int a2] σ (fX5_read a1 a2 σ) := by
  refine ctI_intro (own := "KinInTheHeapModel") (by decide +kernel) rfl [some (.ref (ad 0)), some (.int a1), some (.int a2), none, none, none] (Nat.le_of_ble_eq_true rfl) rfl ?_
  intro p e s m args below meth c A C hr hlk
  refine tr_aload_n C (i := 0) dX5_read_0 rfl rfl ?_
  refine tr_sipush C (v := 160) dX5_read_1 (by decide) ?_
  refine tr_iload_n C (i := 1) dX5_read_4 rfl rfl ?_
  refine tr_imul C dX5_read_5 ?_
  refine tr_putI C (k := 20) (ci := 5) (σ' := putI σ 0 20 (160 * a1)) rfl rfl rfl inT5 rfl (by decide) tyX5 tyX5_ok nmX5 rfl rfl w968 dX5_read_6 rfl ?_
  refine tr_stp (fun σw1 eσw1 => ?_)
  refine tr_aload_n C (i := 0) dX5_read_9 rfl rfl ?_
  refine tr_aload_n C (i := 0) dX5_read_10 rfl rfl ?_
  refine tr_getR C (k := 2) (ci := 5) rfl rfl rfl inT5 rfl (by decide) w950 dX5_read_11 ?_
  refine tr_iload_n C (i := 1) dX5_read_14 rfl rfl ?_
  refine tr_iald C (n := 6) rfl dX5_read_15 (fun h24 => ?_)
  refine tr_putI C (k := 21) (ci := 5) (σ' := putI σw1 0 21 (rd σw1 2 a1)) rfl rfl rfl inT5 rfl (by decide) tyX5 tyX5_ok nmX5 rfl rfl w969 dX5_read_16 rfl ?_
  refine tr_stp (fun σw2 eσw2 => ?_)
  refine tr_aload_n C (i := 0) dX5_read_19 rfl rfl ?_
  refine tr_iconst C (v := 0) dX5_read_20 (by decide) ?_
  refine tr_putI C (k := 22) (ci := 5) (σ' := putI σw2 0 22 0) rfl rfl rfl inT5 rfl (by decide) tyX5 tyX5_ok nmX5 rfl rfl w970 dX5_read_21 rfl ?_
  refine tr_stp (fun σw3 eσw3 => ?_)
  refine tr_aload_n C (i := 0) dX5_read_24 rfl rfl ?_
  refine tr_iconst C (v := 0) dX5_read_25 (by decide) ?_
  refine tr_putI C (k := 26) (ci := 5) (σ' := putI σw3 0 26 0) rfl rfl rfl inT5 rfl (by decide) tyX5 tyX5_ok nmX5 rfl rfl w974 dX5_read_26 rfl ?_
  refine tr_stp (fun σw4 eσw4 => ?_)
  refine tr_aload_n C (i := 0) dX5_read_29 rfl rfl ?_
  refine tr_iconst C (v := 0) dX5_read_30 (by decide) ?_
  refine tr_putZ C (k := 27) (ci := 5) (σ' := putI σw4 0 27 0) rfl rfl rfl inT5 rfl (by decide) tyX5 tyX5_ok nmX5 rfl rfl rfl w975 dX5_read_31 rfl ?_
  refine tr_stp (fun σw5 eσw5 => ?_)
  refine tr_aload_n C (i := 0) dX5_read_34 rfl rfl ?_
  refine tr_cVV C (av := []) (st := []) (kX5_next l g cs ad σw5) mwX5_next w1131 rfl rfl ⟨rfl, rfl⟩ ⟨(Nat.le_of_ble_eq_true rfl), (Nat.le_of_ble_eq_true rfl)⟩ rfl rfl (Nat.le_of_ble_eq_true rfl) dX5_read_35 (fun σ6 hr6 => ?_)
  refine tr_aload_n C (i := 0) dX5_read_38 rfl rfl ?_
  refine tr_aload_n C (i := 0) dX5_read_39 rfl rfl ?_
  refine tr_bipush C (v := 103) dX5_read_40 (by decide) ?_
  refine tr_bipush C (v := 111) dX5_read_42 (by decide) ?_
  refine tr_bipush C (v := 101) dX5_read_44 (by decide) ?_
  refine tr_bipush C (v := 115) dX5_read_46 (by decide) ?_
  refine tr_iconst C (v := 0) dX5_read_48 (by decide) ?_
  refine tr_iconst C (v := 0) dX5_read_49 (by decide) ?_
  refine tr_iconst C (v := 0) dX5_read_50 (by decide) ?_
  refine tr_iconst C (v := 0) dX5_read_51 (by decide) ?_
  refine tr_cVIP C (av := [.int 103, .int 111, .int 101, .int 115, .int 0, .int 0, .int 0, .int 0]) (st := [.ref (ad 0)]) (kX5_isWord l g cs ad 103 111 101 115 0 0 0 0 σ6) mwX5_isWord w1143 rfl rfl ⟨rfl, rfl⟩ ⟨(Nat.le_of_ble_eq_true rfl), (Nat.le_of_ble_eq_true rfl)⟩ rfl rfl (Nat.le_of_ble_eq_true rfl) dX5_read_52 (fun r7 hr7 => ?_)
  refine tr_cVI C (av := [.int r7]) (st := []) (kX5_part l g cs ad r7 σ6) mwX5_part w1151 rfl rfl ⟨rfl, rfl⟩ ⟨(Nat.le_of_ble_eq_true rfl), (Nat.le_of_ble_eq_true rfl)⟩ rfl rfl (Nat.le_of_ble_eq_true rfl) dX5_read_55 (fun r8 σ8 hr8 => ?_)
  refine tr_istore_n C (i := 3) (lv' := [some (.ref (ad 0)), some (.int a1), some (.int a2), some (.int r8), none, none]) dX5_read_58 rfl (by decide) rfl ?_
  refine tr_aload_n C (i := 0) dX5_read_59 rfl rfl ?_
  refine tr_getI C (k := 27) (ci := 5) rfl rfl rfl inT5 rfl (by decide) w975 dX5_read_60 ?_
  have B91 : ∀ (σ91 : Mem) (y3_91 : Int32) (z0_91 : Int32), Tr p l e { frames := 74, cells := 0, slots := 0, locals := 2804 } s m args below meth c g ad (shM g) A 6 (QI g ad (shM g) A below args s) (fX5_read_b91 a1 a2 σ91 y3_91 z0_91) σ91 91 [some (.ref (ad 0)), none, some (.int a2), some (.int y3_91), none, none] [.int z0_91] := by
    intro σ91 y3_91 z0_91
    refine tr_istore C (i := 4) (lv' := [some (.ref (ad 0)), none, some (.int a2), some (.int y3_91), some (.int z0_91), none]) dX5_read_91 (by decide) rfl ?_
    refine tr_aload_n C (i := 0) dX5_read_93 rfl rfl ?_
    refine tr_getI C (k := 27) (ci := 5) rfl rfl rfl inT5 rfl (by decide) w975 dX5_read_94 ?_
    have B125 : ∀ (σ125 : Mem) (y3_125 : Int32) (y4_125 : Int32) (z0_125 : Int32), Tr p l e { frames := 74, cells := 0, slots := 0, locals := 2804 } s m args below meth c g ad (shM g) A 6 (QI g ad (shM g) A below args s) (fX5_read_b125 a1 a2 σ125 y3_125 y4_125 z0_125) σ125 125 [some (.ref (ad 0)), none, some (.int a2), some (.int y3_125), some (.int y4_125), none] [.int z0_125] := by
      intro σ125 y3_125 y4_125 z0_125
      refine tr_istore C (i := 5) (lv' := [some (.ref (ad 0)), none, some (.int a2), some (.int y3_125), some (.int y4_125), some (.int z0_125)]) dX5_read_125 (by decide) rfl ?_
      refine tr_aload_n C (i := 0) dX5_read_127 rfl rfl ?_
      refine tr_getI C (k := 27) (ci := 5) rfl rfl rfl inT5 rfl (by decide) w975 dX5_read_128 ?_
      refine tr_if_ne C (tgt := 145) dX5_read_131 (by decide) (fun q21 => ?_) (fun q21 => ?_)
      · refine tr_aload_n C (i := 0) dX5_read_134 rfl rfl ?_
        refine tr_getI C (k := 23) (ci := 5) rfl rfl rfl inT5 rfl (by decide) w971 dX5_read_135 ?_
        refine tr_if_eq C (tgt := 145) dX5_read_138 (by decide) (fun q20 => ?_) (fun q20 => ?_)
        · refine tr_iload_n C (i := 2) dX5_read_145 rfl rfl ?_
          refine tr_if_ne C (tgt := 153) dX5_read_146 (by decide) (fun q16 => ?_) (fun q16 => ?_)
          · refine tr_iload_n C (i := 3) dX5_read_149 rfl rfl ?_
            refine tr_goto C (tgt := 165) dX5_read_150 (by decide) ?_
            exact tr_iret C hr hlk dX5_read_165
          · refine tr_iload_n C (i := 2) dX5_read_153 rfl rfl ?_
            refine tr_iconst C (v := 1) dX5_read_154 (by decide) ?_
            refine tr_icmp_ne C (tgt := 163) dX5_read_155 (by decide) (fun q15 => ?_) (fun q15 => ?_)
            · refine tr_iload C (i := 4) dX5_read_158 rfl ?_
              refine tr_goto C (tgt := 165) dX5_read_160 (by decide) ?_
              exact tr_iret C hr hlk dX5_read_165
            · refine tr_iload C (i := 5) dX5_read_163 rfl ?_
              exact tr_iret C hr hlk dX5_read_165
        · refine tr_aload_n C (i := 0) dX5_read_141 rfl rfl ?_
          refine tr_cVV C (av := []) (st := []) (kX5_fail l g cs ad σ125) mwX5_fail w1155 rfl rfl ⟨rfl, rfl⟩ ⟨(Nat.le_of_ble_eq_true rfl), (Nat.le_of_ble_eq_true rfl)⟩ rfl rfl (Nat.le_of_ble_eq_true rfl) dX5_read_142 (fun σ17 hr17 => ?_)
          refine tr_iload_n C (i := 2) dX5_read_145 rfl rfl ?_
          refine tr_if_ne C (tgt := 153) dX5_read_146 (by decide) (fun q19 => ?_) (fun q19 => ?_)
          · refine tr_iload_n C (i := 3) dX5_read_149 rfl rfl ?_
            refine tr_goto C (tgt := 165) dX5_read_150 (by decide) ?_
            exact tr_iret C hr hlk dX5_read_165
          · refine tr_iload_n C (i := 2) dX5_read_153 rfl rfl ?_
            refine tr_iconst C (v := 1) dX5_read_154 (by decide) ?_
            refine tr_icmp_ne C (tgt := 163) dX5_read_155 (by decide) (fun q18 => ?_) (fun q18 => ?_)
            · refine tr_iload C (i := 4) dX5_read_158 rfl ?_
              refine tr_goto C (tgt := 165) dX5_read_160 (by decide) ?_
              exact tr_iret C hr hlk dX5_read_165
            · refine tr_iload C (i := 5) dX5_read_163 rfl ?_
              exact tr_iret C hr hlk dX5_read_165
      · refine tr_iload_n C (i := 2) dX5_read_145 rfl rfl ?_
        refine tr_if_ne C (tgt := 153) dX5_read_146 (by decide) (fun q14 => ?_) (fun q14 => ?_)
        · refine tr_iload_n C (i := 3) dX5_read_149 rfl rfl ?_
          refine tr_goto C (tgt := 165) dX5_read_150 (by decide) ?_
          exact tr_iret C hr hlk dX5_read_165
        · refine tr_iload_n C (i := 2) dX5_read_153 rfl rfl ?_
          refine tr_iconst C (v := 1) dX5_read_154 (by decide) ?_
          refine tr_icmp_ne C (tgt := 163) dX5_read_155 (by decide) (fun q13 => ?_) (fun q13 => ?_)
          · refine tr_iload C (i := 4) dX5_read_158 rfl ?_
            refine tr_goto C (tgt := 165) dX5_read_160 (by decide) ?_
            exact tr_iret C hr hlk dX5_read_165
          · refine tr_iload C (i := 5) dX5_read_163 rfl ?_
            exact tr_iret C hr hlk dX5_read_165
    refine tr_if_eq C (tgt := 104) dX5_read_97 (by decide) (fun q22 => ?_) (fun q22 => ?_)
    · refine tr_aload_n C (i := 0) dX5_read_104 rfl rfl ?_
      refine tr_aload_n C (i := 0) dX5_read_105 rfl rfl ?_
      refine tr_bipush C (v := 100) dX5_read_106 (by decide) ?_
      refine tr_bipush C (v := 114) dX5_read_108 (by decide) ?_
      refine tr_bipush C (v := 97) dX5_read_110 (by decide) ?_
      refine tr_bipush C (v := 119) dX5_read_112 (by decide) ?_
      refine tr_bipush C (v := 115) dX5_read_114 (by decide) ?_
      refine tr_iconst C (v := 0) dX5_read_116 (by decide) ?_
      refine tr_iconst C (v := 0) dX5_read_117 (by decide) ?_
      refine tr_iconst C (v := 0) dX5_read_118 (by decide) ?_
      refine tr_cVIP C (av := [.int 100, .int 114, .int 97, .int 119, .int 115, .int 0, .int 0, .int 0]) (st := [.ref (ad 0)]) (kX5_isWord l g cs ad 100 114 97 119 115 0 0 0 σ91) mwX5_isWord w1143 rfl rfl ⟨rfl, rfl⟩ ⟨(Nat.le_of_ble_eq_true rfl), (Nat.le_of_ble_eq_true rfl)⟩ rfl rfl (Nat.le_of_ble_eq_true rfl) dX5_read_119 (fun r11 hr11 => ?_)
      refine tr_cVI C (av := [.int r11]) (st := []) (kX5_part l g cs ad r11 σ91) mwX5_part w1151 rfl rfl ⟨rfl, rfl⟩ ⟨(Nat.le_of_ble_eq_true rfl), (Nat.le_of_ble_eq_true rfl)⟩ rfl rfl (Nat.le_of_ble_eq_true rfl) dX5_read_122 (fun r12 σ12 hr12 => ?_)
      exact B125 σ12 y3_91 z0_91 r12
    · refine tr_iconst C (v := 0) dX5_read_100 (by decide) ?_
      refine tr_goto C (tgt := 125) dX5_read_101 (by decide) ?_
      exact B125 σ91 y3_91 z0_91 0
  refine tr_if_eq C (tgt := 70) dX5_read_63 (by decide) (fun q23 => ?_) (fun q23 => ?_)
  · refine tr_aload_n C (i := 0) dX5_read_70 rfl rfl ?_
    refine tr_aload_n C (i := 0) dX5_read_71 rfl rfl ?_
    refine tr_bipush C (v := 102) dX5_read_72 (by decide) ?_
    refine tr_bipush C (v := 114) dX5_read_74 (by decide) ?_
    refine tr_bipush C (v := 101) dX5_read_76 (by decide) ?_
    refine tr_bipush C (v := 101) dX5_read_78 (by decide) ?_
    refine tr_bipush C (v := 115) dX5_read_80 (by decide) ?_
    refine tr_iconst C (v := 0) dX5_read_82 (by decide) ?_
    refine tr_iconst C (v := 0) dX5_read_83 (by decide) ?_
    refine tr_iconst C (v := 0) dX5_read_84 (by decide) ?_
    refine tr_cVIP C (av := [.int 102, .int 114, .int 101, .int 101, .int 115, .int 0, .int 0, .int 0]) (st := [.ref (ad 0)]) (kX5_isWord l g cs ad 102 114 101 101 115 0 0 0 σ8) mwX5_isWord w1143 rfl rfl ⟨rfl, rfl⟩ ⟨(Nat.le_of_ble_eq_true rfl), (Nat.le_of_ble_eq_true rfl)⟩ rfl rfl (Nat.le_of_ble_eq_true rfl) dX5_read_85 (fun r9 hr9 => ?_)
    refine tr_cVI C (av := [.int r9]) (st := []) (kX5_part l g cs ad r9 σ8) mwX5_part w1151 rfl rfl ⟨rfl, rfl⟩ ⟨(Nat.le_of_ble_eq_true rfl), (Nat.le_of_ble_eq_true rfl)⟩ rfl rfl (Nat.le_of_ble_eq_true rfl) dX5_read_88 (fun r10 σ10 hr10 => ?_)
    refine tr_mask [true, false, true, true, false, false] rfl ?_
    exact B91 σ10 r8 r10
  · refine tr_iconst C (v := 0) dX5_read_66 (by decide) ?_
    refine tr_goto C (tgt := 91) dX5_read_67 (by decide) ?_
    refine tr_mask [true, false, true, true, false, false] rfl ?_
    exact B91 σ8 r8 0
def fX5_says (a1 : Int32) (a2 : Int32) (σ : Mem) : Option (Int32 × Mem) :=
  stp (putI σ 0 14 (σ.1 0 8)) fun σw1 => (
    gd (inB a2 8) (
      stp (putI σw1 0 15 (rd σw1 6 a2)) fun σw2 => (
        gd (inB a2 8) (
          stp (putI σw2 0 16 ((rd σw2 7 a2) / 6)) fun σw3 => (
            gd (inB a2 8) (
              stp (putI σw3 0 17 ((rd σw3 7 a2) - (rd σw3 7 a2) / 6 * 6)) fun σw4 => (
                bn1 (fX5_kinOf a2 σw4) fun r5 => (
                  stp (putI σw4 0 18 r5) fun σw6 => (
                    stp (putI σw6 0 19 (σw6.1 0 7)) fun σw7 => (
                      bnd (fX5_read (σw7.1 0 4) a1 σw7) fun r8 σ8 => (
                        some (r8, σ8)
                      )
                    )
                  )
                )
              )
            )
          )
        )
      )
    )
  )
set_option maxHeartbeats 4000000 in
set_option maxRecDepth 100000 in
theorem kX5_says (l : Launch) (g : GG) (cs : CS) (ad : Nat → Nat) (a1 : Int32) (a2 : Int32) (σ : Mem) : CtI l g cs ad (shM g) mX5_says (.code mX5_says cX5_says 3 (some .int)) { frames := 75, cells := 0, slots := 0, locals := 2829 } [.ref (ad 0), .int a1, .int a2] σ (fX5_says a1 a2 σ) := by
  refine ctI_intro (own := "KinInTheHeapModel") (by decide +kernel) rfl [some (.ref (ad 0)), some (.int a1), some (.int a2)] (Nat.le_of_ble_eq_true rfl) rfl ?_
  intro p e s m args below meth c A C hr hlk
  refine tr_aload_n C (i := 0) dX5_says_0 rfl rfl ?_
  refine tr_aload_n C (i := 0) dX5_says_1 rfl rfl ?_
  refine tr_getI C (k := 8) (ci := 5) rfl rfl rfl inT5 rfl (by decide) w956 dX5_says_2 ?_
  refine tr_putI C (k := 14) (ci := 5) (σ' := putI σ 0 14 (σ.1 0 8)) rfl rfl rfl inT5 rfl (by decide) tyX5 tyX5_ok nmX5 rfl rfl w962 dX5_says_5 rfl ?_
  refine tr_stp (fun σw1 eσw1 => ?_)
  refine tr_aload_n C (i := 0) dX5_says_8 rfl rfl ?_
  refine tr_aload_n C (i := 0) dX5_says_9 rfl rfl ?_
  refine tr_getR C (k := 11) (ci := 5) rfl rfl rfl inT5 rfl (by decide) w959 dX5_says_10 ?_
  refine tr_iload_n C (i := 2) dX5_says_13 rfl rfl ?_
  refine tr_iald C (n := 8) rfl dX5_says_14 (fun h11 => ?_)
  refine tr_putI C (k := 15) (ci := 5) (σ' := putI σw1 0 15 (rd σw1 6 a2)) rfl rfl rfl inT5 rfl (by decide) tyX5 tyX5_ok nmX5 rfl rfl w963 dX5_says_15 rfl ?_
  refine tr_stp (fun σw2 eσw2 => ?_)
  refine tr_aload_n C (i := 0) dX5_says_18 rfl rfl ?_
  refine tr_aload_n C (i := 0) dX5_says_19 rfl rfl ?_
  refine tr_getR C (k := 12) (ci := 5) rfl rfl rfl inT5 rfl (by decide) w960 dX5_says_20 ?_
  refine tr_iload_n C (i := 2) dX5_says_23 rfl rfl ?_
  refine tr_iald C (n := 8) rfl dX5_says_24 (fun h10 => ?_)
  refine tr_bipush C (v := 6) dX5_says_25 (by decide) ?_
  refine tr_idivK C dX5_says_27 (by decide) ?_
  refine tr_putI C (k := 16) (ci := 5) (σ' := putI σw2 0 16 ((rd σw2 7 a2) / 6)) rfl rfl rfl inT5 rfl (by decide) tyX5 tyX5_ok nmX5 rfl rfl w964 dX5_says_28 rfl ?_
  refine tr_stp (fun σw3 eσw3 => ?_)
  refine tr_aload_n C (i := 0) dX5_says_31 rfl rfl ?_
  refine tr_aload_n C (i := 0) dX5_says_32 rfl rfl ?_
  refine tr_getR C (k := 12) (ci := 5) rfl rfl rfl inT5 rfl (by decide) w960 dX5_says_33 ?_
  refine tr_iload_n C (i := 2) dX5_says_36 rfl rfl ?_
  refine tr_iald C (n := 8) rfl dX5_says_37 (fun h9 => ?_)
  refine tr_bipush C (v := 6) dX5_says_38 (by decide) ?_
  refine tr_iremK C dX5_says_40 (by decide) ?_
  refine tr_putI C (k := 17) (ci := 5) (σ' := putI σw3 0 17 ((rd σw3 7 a2) - (rd σw3 7 a2) / 6 * 6)) rfl rfl rfl inT5 rfl (by decide) tyX5 tyX5_ok nmX5 rfl rfl w965 dX5_says_41 rfl ?_
  refine tr_stp (fun σw4 eσw4 => ?_)
  refine tr_aload_n C (i := 0) dX5_says_44 rfl rfl ?_
  refine tr_aload_n C (i := 0) dX5_says_45 rfl rfl ?_
  refine tr_iload_n C (i := 2) dX5_says_46 rfl rfl ?_
  refine tr_cVIP C (av := [.int a2]) (st := [.ref (ad 0)]) (kX5_kinOf l g cs ad a2 σw4) mwX5_kinOf w1116 rfl rfl ⟨rfl, rfl⟩ ⟨(Nat.le_of_ble_eq_true rfl), (Nat.le_of_ble_eq_true rfl)⟩ rfl rfl (Nat.le_of_ble_eq_true rfl) dX5_says_47 (fun r5 hr5 => ?_)
  refine tr_putI C (k := 18) (ci := 5) (σ' := putI σw4 0 18 r5) rfl rfl rfl inT5 rfl (by decide) tyX5 tyX5_ok nmX5 rfl rfl w966 dX5_says_50 rfl ?_
  refine tr_stp (fun σw6 eσw6 => ?_)
  refine tr_aload_n C (i := 0) dX5_says_53 rfl rfl ?_
  refine tr_aload_n C (i := 0) dX5_says_54 rfl rfl ?_
  refine tr_getI C (k := 7) (ci := 5) rfl rfl rfl inT5 rfl (by decide) w955 dX5_says_55 ?_
  refine tr_putI C (k := 19) (ci := 5) (σ' := putI σw6 0 19 (σw6.1 0 7)) rfl rfl rfl inT5 rfl (by decide) tyX5 tyX5_ok nmX5 rfl rfl w967 dX5_says_58 rfl ?_
  refine tr_stp (fun σw7 eσw7 => ?_)
  refine tr_aload_n C (i := 0) dX5_says_61 rfl rfl ?_
  refine tr_aload_n C (i := 0) dX5_says_62 rfl rfl ?_
  refine tr_getI C (k := 4) (ci := 5) rfl rfl rfl inT5 rfl (by decide) w952 dX5_says_63 ?_
  refine tr_iload_n C (i := 1) dX5_says_66 rfl rfl ?_
  refine tr_cVI C (av := [.int (σw7.1 0 4), .int a1]) (st := []) (kX5_read l g cs ad (σw7.1 0 4) a1 σw7) mwX5_read w1127 rfl rfl ⟨rfl, rfl⟩ ⟨(Nat.le_of_ble_eq_true rfl), (Nat.le_of_ble_eq_true rfl)⟩ rfl rfl (Nat.le_of_ble_eq_true rfl) dX5_says_67 (fun r8 σ8 hr8 => ?_)
  exact tr_iret C hr hlk dX5_says_70
def fX5_goesOf_b47 (a1 : Int32) (σ47 : Mem) (y2_47 : Int32) : Option (Int32 × Mem) :=
  bnd (fX5_says 0 a1 σ47) fun r1 σ1 => (
    bn1 (fX5_within r1 0 9 σ1) fun r2 => (
      if y2_47 = 1 then (
        bn1 (fX5_within (r2 / 2) 0 9 σ1) fun r3 => (
          some (r3, σ1)
        )
      ) else (
        if y2_47 = 3 then (
          bn1 (fX5_within (r2 / 2) 0 9 σ1) fun r9 => (
            some (r9, σ1)
          )
        ) else (
          if y2_47 = 2 then (
            bn1 (fX5_within (r2 + 1) 0 9 σ1) fun r7 => (
              some (r7, σ1)
            )
          ) else (
            if y2_47 = 4 then (
              bn1 (fX5_within (2 * (r2 + 1)) 0 9 σ1) fun r5 => (
                some (r5, σ1)
              )
            ) else (
              bn1 (fX5_within r2 0 9 σ1) fun r4 => (
                some (r4, σ1)
              )
            )
          )
        )
      )
    )
  )
def fX5_goesOf (a1 : Int32) (σ : Mem) : Option (Int32 × Mem) :=
  gd (inB a1 8) (
    if (rd σ 5 a1) = 5 then (
      if (σ.1 0 8) ≤ 5 then (
        some (0, σ)
      ) else (
        gd (inB a1 8) (
          some (rd σ 6 a1, σ)
        )
      )
    ) else (
      if (rd σ 5 a1) = 3 then (
        bn1 (fX5_kinOf a1 σ) fun r12 => (
          if r12 = 1 then (
            some (0, σ)
          ) else (
            fX5_goesOf_b47 a1 σ (rd σ 5 a1)
          )
        )
      ) else (
        fX5_goesOf_b47 a1 σ (rd σ 5 a1)
      )
    )
  )
set_option maxHeartbeats 4000000 in
set_option maxRecDepth 100000 in
theorem kX5_goesOf (l : Launch) (g : GG) (cs : CS) (ad : Nat → Nat) (a1 : Int32) (σ : Mem) : CtI l g cs ad (shM g) mX5_goesOf (.code mX5_goesOf cX5_goesOf 4 (some .int)) { frames := 76, cells := 0, slots := 0, locals := 2851 } [.ref (ad 0), .int a1] σ (fX5_goesOf a1 σ) := by
  refine ctI_intro (own := "KinInTheHeapModel") (by decide +kernel) rfl [some (.ref (ad 0)), some (.int a1), none, none] (Nat.le_of_ble_eq_true rfl) rfl ?_
  intro p e s m args below meth c A C hr hlk
  refine tr_aload_n C (i := 0) dX5_goesOf_0 rfl rfl ?_
  refine tr_getR C (k := 10) (ci := 5) rfl rfl rfl inT5 rfl (by decide) w958 dX5_goesOf_1 ?_
  refine tr_iload_n C (i := 1) dX5_goesOf_4 rfl rfl ?_
  refine tr_iald C (n := 8) rfl dX5_goesOf_5 (fun h18 => ?_)
  refine tr_istore_n C (i := 2) (lv' := [some (.ref (ad 0)), some (.int a1), some (.int (rd σ 5 a1)), none]) dX5_goesOf_6 rfl (by decide) rfl ?_
  refine tr_iload_n C (i := 2) dX5_goesOf_7 rfl rfl ?_
  refine tr_iconst C (v := 5) dX5_goesOf_8 (by decide) ?_
  refine tr_icmp_ne C (tgt := 31) dX5_goesOf_9 (by decide) (fun q17 => ?_) (fun q17 => ?_)
  · refine tr_aload_n C (i := 0) dX5_goesOf_12 rfl rfl ?_
    refine tr_getI C (k := 8) (ci := 5) rfl rfl rfl inT5 rfl (by decide) w956 dX5_goesOf_13 ?_
    refine tr_iconst C (v := 5) dX5_goesOf_16 (by decide) ?_
    refine tr_icmp_le C (tgt := 29) dX5_goesOf_17 (by decide) (fun q16 => ?_) (fun q16 => ?_)
    · refine tr_iconst C (v := 0) dX5_goesOf_29 (by decide) ?_
      exact tr_iret C hr hlk dX5_goesOf_30
    · refine tr_aload_n C (i := 0) dX5_goesOf_20 rfl rfl ?_
      refine tr_getR C (k := 11) (ci := 5) rfl rfl rfl inT5 rfl (by decide) w959 dX5_goesOf_21 ?_
      refine tr_iload_n C (i := 1) dX5_goesOf_24 rfl rfl ?_
      refine tr_iald C (n := 8) rfl dX5_goesOf_25 (fun h15 => ?_)
      refine tr_goto C (tgt := 30) dX5_goesOf_26 (by decide) ?_
      exact tr_iret C hr hlk dX5_goesOf_30
  · refine tr_iload_n C (i := 2) dX5_goesOf_31 rfl rfl ?_
    refine tr_iconst C (v := 3) dX5_goesOf_32 (by decide) ?_
    have B47 : ∀ (σ47 : Mem) (y2_47 : Int32), Tr p l e { frames := 76, cells := 0, slots := 0, locals := 2851 } s m args below meth c g ad (shM g) A 4 (QI g ad (shM g) A below args s) (fX5_goesOf_b47 a1 σ47 y2_47) σ47 47 [some (.ref (ad 0)), some (.int a1), some (.int y2_47), none] [] := by
      intro σ47 y2_47
      refine tr_aload_n C (i := 0) dX5_goesOf_47 rfl rfl ?_
      refine tr_iconst C (v := 0) dX5_goesOf_48 (by decide) ?_
      refine tr_iload_n C (i := 1) dX5_goesOf_49 rfl rfl ?_
      refine tr_cVI C (av := [.int 0, .int a1]) (st := []) (kX5_says l g cs ad 0 a1 σ47) mwX5_says w1123 rfl rfl ⟨rfl, rfl⟩ ⟨(Nat.le_of_ble_eq_true rfl), (Nat.le_of_ble_eq_true rfl)⟩ rfl rfl (Nat.le_of_ble_eq_true rfl) dX5_goesOf_50 (fun r1 σ1 hr1 => ?_)
      refine tr_iconst C (v := 0) dX5_goesOf_53 (by decide) ?_
      refine tr_bipush C (v := 9) dX5_goesOf_54 (by decide) ?_
      refine tr_cSIP C (av := [.int r1, .int 0, .int 9]) (st := []) (kX5_within l g cs ad r1 0 9 σ1) mwX5_within w1197 ⟨rfl, rfl⟩ ⟨(Nat.le_of_ble_eq_true rfl), (Nat.le_of_ble_eq_true rfl)⟩ rfl rfl (Nat.le_of_ble_eq_true rfl) dX5_goesOf_56 (fun r2 hr2 => ?_)
      refine tr_istore_n C (i := 3) (lv' := [some (.ref (ad 0)), some (.int a1), some (.int y2_47), some (.int r2)]) dX5_goesOf_59 rfl (by decide) rfl ?_
      refine tr_iload_n C (i := 2) dX5_goesOf_60 rfl rfl ?_
      refine tr_iconst C (v := 1) dX5_goesOf_61 (by decide) ?_
      refine tr_icmp_eq C (tgt := 70) dX5_goesOf_62 (by decide) (fun q11 => ?_) (fun q11 => ?_)
      · refine tr_iload_n C (i := 3) dX5_goesOf_70 rfl rfl ?_
        refine tr_iconst C (v := 2) dX5_goesOf_71 (by decide) ?_
        refine tr_idivK C dX5_goesOf_72 (by decide) ?_
        refine tr_goto C (tgt := 101) dX5_goesOf_73 (by decide) ?_
        refine tr_iconst C (v := 0) dX5_goesOf_101 (by decide) ?_
        refine tr_bipush C (v := 9) dX5_goesOf_102 (by decide) ?_
        refine tr_cSIP C (av := [.int (r2 / 2), .int 0, .int 9]) (st := []) (kX5_within l g cs ad (r2 / 2) 0 9 σ1) mwX5_within w1197 ⟨rfl, rfl⟩ ⟨(Nat.le_of_ble_eq_true rfl), (Nat.le_of_ble_eq_true rfl)⟩ rfl rfl (Nat.le_of_ble_eq_true rfl) dX5_goesOf_104 (fun r3 hr3 => ?_)
        exact tr_iret C hr hlk dX5_goesOf_107
      · refine tr_iload_n C (i := 2) dX5_goesOf_65 rfl rfl ?_
        refine tr_iconst C (v := 3) dX5_goesOf_66 (by decide) ?_
        refine tr_icmp_ne C (tgt := 76) dX5_goesOf_67 (by decide) (fun q10 => ?_) (fun q10 => ?_)
        · refine tr_iload_n C (i := 3) dX5_goesOf_70 rfl rfl ?_
          refine tr_iconst C (v := 2) dX5_goesOf_71 (by decide) ?_
          refine tr_idivK C dX5_goesOf_72 (by decide) ?_
          refine tr_goto C (tgt := 101) dX5_goesOf_73 (by decide) ?_
          refine tr_iconst C (v := 0) dX5_goesOf_101 (by decide) ?_
          refine tr_bipush C (v := 9) dX5_goesOf_102 (by decide) ?_
          refine tr_cSIP C (av := [.int (r2 / 2), .int 0, .int 9]) (st := []) (kX5_within l g cs ad (r2 / 2) 0 9 σ1) mwX5_within w1197 ⟨rfl, rfl⟩ ⟨(Nat.le_of_ble_eq_true rfl), (Nat.le_of_ble_eq_true rfl)⟩ rfl rfl (Nat.le_of_ble_eq_true rfl) dX5_goesOf_104 (fun r9 hr9 => ?_)
          exact tr_iret C hr hlk dX5_goesOf_107
        · refine tr_iload_n C (i := 2) dX5_goesOf_76 rfl rfl ?_
          refine tr_iconst C (v := 2) dX5_goesOf_77 (by decide) ?_
          refine tr_icmp_ne C (tgt := 87) dX5_goesOf_78 (by decide) (fun q8 => ?_) (fun q8 => ?_)
          · refine tr_iload_n C (i := 3) dX5_goesOf_81 rfl rfl ?_
            refine tr_iconst C (v := 1) dX5_goesOf_82 (by decide) ?_
            refine tr_iadd C dX5_goesOf_83 ?_
            refine tr_goto C (tgt := 101) dX5_goesOf_84 (by decide) ?_
            refine tr_iconst C (v := 0) dX5_goesOf_101 (by decide) ?_
            refine tr_bipush C (v := 9) dX5_goesOf_102 (by decide) ?_
            refine tr_cSIP C (av := [.int (r2 + 1), .int 0, .int 9]) (st := []) (kX5_within l g cs ad (r2 + 1) 0 9 σ1) mwX5_within w1197 ⟨rfl, rfl⟩ ⟨(Nat.le_of_ble_eq_true rfl), (Nat.le_of_ble_eq_true rfl)⟩ rfl rfl (Nat.le_of_ble_eq_true rfl) dX5_goesOf_104 (fun r7 hr7 => ?_)
            exact tr_iret C hr hlk dX5_goesOf_107
          · refine tr_iload_n C (i := 2) dX5_goesOf_87 rfl rfl ?_
            refine tr_iconst C (v := 4) dX5_goesOf_88 (by decide) ?_
            refine tr_icmp_ne C (tgt := 100) dX5_goesOf_89 (by decide) (fun q6 => ?_) (fun q6 => ?_)
            · refine tr_iconst C (v := 2) dX5_goesOf_92 (by decide) ?_
              refine tr_iload_n C (i := 3) dX5_goesOf_93 rfl rfl ?_
              refine tr_iconst C (v := 1) dX5_goesOf_94 (by decide) ?_
              refine tr_iadd C dX5_goesOf_95 ?_
              refine tr_imul C dX5_goesOf_96 ?_
              refine tr_goto C (tgt := 101) dX5_goesOf_97 (by decide) ?_
              refine tr_iconst C (v := 0) dX5_goesOf_101 (by decide) ?_
              refine tr_bipush C (v := 9) dX5_goesOf_102 (by decide) ?_
              refine tr_cSIP C (av := [.int (2 * (r2 + 1)), .int 0, .int 9]) (st := []) (kX5_within l g cs ad (2 * (r2 + 1)) 0 9 σ1) mwX5_within w1197 ⟨rfl, rfl⟩ ⟨(Nat.le_of_ble_eq_true rfl), (Nat.le_of_ble_eq_true rfl)⟩ rfl rfl (Nat.le_of_ble_eq_true rfl) dX5_goesOf_104 (fun r5 hr5 => ?_)
              exact tr_iret C hr hlk dX5_goesOf_107
            · refine tr_iload_n C (i := 3) dX5_goesOf_100 rfl rfl ?_
              refine tr_iconst C (v := 0) dX5_goesOf_101 (by decide) ?_
              refine tr_bipush C (v := 9) dX5_goesOf_102 (by decide) ?_
              refine tr_cSIP C (av := [.int r2, .int 0, .int 9]) (st := []) (kX5_within l g cs ad r2 0 9 σ1) mwX5_within w1197 ⟨rfl, rfl⟩ ⟨(Nat.le_of_ble_eq_true rfl), (Nat.le_of_ble_eq_true rfl)⟩ rfl rfl (Nat.le_of_ble_eq_true rfl) dX5_goesOf_104 (fun r4 hr4 => ?_)
              exact tr_iret C hr hlk dX5_goesOf_107
    refine tr_icmp_ne C (tgt := 47) dX5_goesOf_33 (by decide) (fun q14 => ?_) (fun q14 => ?_)
    · refine tr_aload_n C (i := 0) dX5_goesOf_36 rfl rfl ?_
      refine tr_iload_n C (i := 1) dX5_goesOf_37 rfl rfl ?_
      refine tr_cVIP C (av := [.int a1]) (st := []) (kX5_kinOf l g cs ad a1 σ) mwX5_kinOf w1116 rfl rfl ⟨rfl, rfl⟩ ⟨(Nat.le_of_ble_eq_true rfl), (Nat.le_of_ble_eq_true rfl)⟩ rfl rfl (Nat.le_of_ble_eq_true rfl) dX5_goesOf_38 (fun r12 hr12 => ?_)
      refine tr_iconst C (v := 1) dX5_goesOf_41 (by decide) ?_
      refine tr_icmp_ne C (tgt := 47) dX5_goesOf_42 (by decide) (fun q13 => ?_) (fun q13 => ?_)
      · refine tr_iconst C (v := 0) dX5_goesOf_45 (by decide) ?_
        exact tr_iret C hr hlk dX5_goesOf_46
      · exact B47 σ (rd σ 5 a1)
    · exact B47 σ (rd σ 5 a1)
def fX5_isLoose_b38 (a1 : Int32) (σ38 : Mem) (y2_38 : Int32) : Option (Int32 × Mem) :=
  if y2_38 = 3 then (
    if (σ38.1 0 8) = 9 then (
      some (1, σ38)
    ) else (
      some (0, σ38)
    )
  ) else (
    if ((σ38.1 0 7) - (σ38.1 0 7) / 2 * 2) = 0 then (
      some (1, σ38)
    ) else (
      some (0, σ38)
    )
  )
def fX5_isLoose (a1 : Int32) (σ : Mem) : Option (Int32 × Mem) :=
  gd (inB a1 8) (
    if (rd σ 5 a1) = 1 then (
      if (rd σ 5 a1) = 2 then (
        some (1, σ)
      ) else (
        some (0, σ)
      )
    ) else (
      if (rd σ 5 a1) = 2 then (
        if (rd σ 5 a1) = 2 then (
          some (1, σ)
        ) else (
          some (0, σ)
        )
      ) else (
        if (rd σ 5 a1) = 3 then (
          fX5_isLoose_b38 a1 σ (rd σ 5 a1)
        ) else (
          if (rd σ 5 a1) = 4 then (
            fX5_isLoose_b38 a1 σ (rd σ 5 a1)
          ) else (
            bnd (fX5_says 1 a1 σ) fun r5 σ5 => (
              if r5 = 0 then (
                if (rd σ 5 a1) = 5 then (
                  if (0 : Int32) = 0 then (
                    some (1, σ5)
                  ) else (
                    some (0, σ5)
                  )
                ) else (
                  some (0, σ5)
                )
              ) else (
                if (rd σ 5 a1) = 5 then (
                  if (1 : Int32) = 0 then (
                    some (1, σ5)
                  ) else (
                    some (0, σ5)
                  )
                ) else (
                  some (1, σ5)
                )
              )
            )
          )
        )
      )
    )
  )
set_option maxHeartbeats 4000000 in
set_option maxRecDepth 100000 in
theorem kX5_isLoose (l : Launch) (g : GG) (cs : CS) (ad : Nat → Nat) (a1 : Int32) (σ : Mem) : CtI l g cs ad (shM g) mX5_isLoose (.code mX5_isLoose cX5_isLoose 4 (some .boolean)) { frames := 76, cells := 0, slots := 0, locals := 2851 } [.ref (ad 0), .int a1] σ (fX5_isLoose a1 σ) := by
  refine ctI_intro (own := "KinInTheHeapModel") (by decide +kernel) rfl [some (.ref (ad 0)), some (.int a1), none, none] (Nat.le_of_ble_eq_true rfl) rfl ?_
  intro p e s m args below meth c A C hr hlk
  refine tr_aload_n C (i := 0) dX5_isLoose_0 rfl rfl ?_
  refine tr_getR C (k := 10) (ci := 5) rfl rfl rfl inT5 rfl (by decide) w958 dX5_isLoose_1 ?_
  refine tr_iload_n C (i := 1) dX5_isLoose_4 rfl rfl ?_
  refine tr_iald C (n := 8) rfl dX5_isLoose_5 (fun h16 => ?_)
  refine tr_istore_n C (i := 2) (lv' := [some (.ref (ad 0)), some (.int a1), some (.int (rd σ 5 a1)), none]) dX5_isLoose_6 rfl (by decide) rfl ?_
  refine tr_iload_n C (i := 2) dX5_isLoose_7 rfl rfl ?_
  refine tr_iconst C (v := 1) dX5_isLoose_8 (by decide) ?_
  refine tr_icmp_eq C (tgt := 17) dX5_isLoose_9 (by decide) (fun q15 => ?_) (fun q15 => ?_)
  · refine tr_iload_n C (i := 2) dX5_isLoose_17 rfl rfl ?_
    refine tr_iconst C (v := 2) dX5_isLoose_18 (by decide) ?_
    refine tr_icmp_ne C (tgt := 26) dX5_isLoose_19 (by decide) (fun q1 => ?_) (fun q1 => ?_)
    · refine tr_iconst C (v := 1) dX5_isLoose_22 (by decide) ?_
      refine tr_goto C (tgt := 27) dX5_isLoose_23 (by decide) ?_
      exact tr_zret C hr hlk rfl dX5_isLoose_27
    · refine tr_iconst C (v := 0) dX5_isLoose_26 (by decide) ?_
      exact tr_zret C hr hlk rfl dX5_isLoose_27
  · refine tr_iload_n C (i := 2) dX5_isLoose_12 rfl rfl ?_
    refine tr_iconst C (v := 2) dX5_isLoose_13 (by decide) ?_
    refine tr_icmp_ne C (tgt := 28) dX5_isLoose_14 (by decide) (fun q14 => ?_) (fun q14 => ?_)
    · refine tr_iload_n C (i := 2) dX5_isLoose_17 rfl rfl ?_
      refine tr_iconst C (v := 2) dX5_isLoose_18 (by decide) ?_
      refine tr_icmp_ne C (tgt := 26) dX5_isLoose_19 (by decide) (fun q13 => ?_) (fun q13 => ?_)
      · refine tr_iconst C (v := 1) dX5_isLoose_22 (by decide) ?_
        refine tr_goto C (tgt := 27) dX5_isLoose_23 (by decide) ?_
        exact tr_zret C hr hlk rfl dX5_isLoose_27
      · refine tr_iconst C (v := 0) dX5_isLoose_26 (by decide) ?_
        exact tr_zret C hr hlk rfl dX5_isLoose_27
    · refine tr_iload_n C (i := 2) dX5_isLoose_28 rfl rfl ?_
      refine tr_iconst C (v := 3) dX5_isLoose_29 (by decide) ?_
      have B38 : ∀ (σ38 : Mem) (y2_38 : Int32), Tr p l e { frames := 76, cells := 0, slots := 0, locals := 2851 } s m args below meth c g ad (shM g) A 4 (QI g ad (shM g) A below args s) (fX5_isLoose_b38 a1 σ38 y2_38) σ38 38 [some (.ref (ad 0)), none, some (.int y2_38), none] [] := by
        intro σ38 y2_38
        refine tr_iload_n C (i := 2) dX5_isLoose_38 rfl rfl ?_
        refine tr_iconst C (v := 3) dX5_isLoose_39 (by decide) ?_
        refine tr_icmp_ne C (tgt := 60) dX5_isLoose_40 (by decide) (fun q4 => ?_) (fun q4 => ?_)
        · refine tr_aload_n C (i := 0) dX5_isLoose_43 rfl rfl ?_
          refine tr_getI C (k := 8) (ci := 5) rfl rfl rfl inT5 rfl (by decide) w956 dX5_isLoose_44 ?_
          refine tr_bipush C (v := 9) dX5_isLoose_47 (by decide) ?_
          refine tr_icmp_ne C (tgt := 56) dX5_isLoose_49 (by decide) (fun q3 => ?_) (fun q3 => ?_)
          · refine tr_iconst C (v := 1) dX5_isLoose_52 (by decide) ?_
            refine tr_goto C (tgt := 74) dX5_isLoose_53 (by decide) ?_
            exact tr_zret C hr hlk rfl dX5_isLoose_74
          · refine tr_iconst C (v := 0) dX5_isLoose_56 (by decide) ?_
            refine tr_goto C (tgt := 74) dX5_isLoose_57 (by decide) ?_
            exact tr_zret C hr hlk rfl dX5_isLoose_74
        · refine tr_aload_n C (i := 0) dX5_isLoose_60 rfl rfl ?_
          refine tr_getI C (k := 7) (ci := 5) rfl rfl rfl inT5 rfl (by decide) w955 dX5_isLoose_61 ?_
          refine tr_iconst C (v := 2) dX5_isLoose_64 (by decide) ?_
          refine tr_iremK C dX5_isLoose_65 (by decide) ?_
          refine tr_if_ne C (tgt := 73) dX5_isLoose_66 (by decide) (fun q2 => ?_) (fun q2 => ?_)
          · refine tr_iconst C (v := 1) dX5_isLoose_69 (by decide) ?_
            refine tr_goto C (tgt := 74) dX5_isLoose_70 (by decide) ?_
            exact tr_zret C hr hlk rfl dX5_isLoose_74
          · refine tr_iconst C (v := 0) dX5_isLoose_73 (by decide) ?_
            exact tr_zret C hr hlk rfl dX5_isLoose_74
      refine tr_icmp_eq C (tgt := 38) dX5_isLoose_30 (by decide) (fun q12 => ?_) (fun q12 => ?_)
      · refine tr_mask [true, false, true, false] rfl ?_
        exact B38 σ (rd σ 5 a1)
      · refine tr_iload_n C (i := 2) dX5_isLoose_33 rfl rfl ?_
        refine tr_iconst C (v := 4) dX5_isLoose_34 (by decide) ?_
        refine tr_icmp_ne C (tgt := 75) dX5_isLoose_35 (by decide) (fun q11 => ?_) (fun q11 => ?_)
        · refine tr_mask [true, false, true, false] rfl ?_
          exact B38 σ (rd σ 5 a1)
        · refine tr_aload_n C (i := 0) dX5_isLoose_75 rfl rfl ?_
          refine tr_iconst C (v := 1) dX5_isLoose_76 (by decide) ?_
          refine tr_iload_n C (i := 1) dX5_isLoose_77 rfl rfl ?_
          refine tr_cVI C (av := [.int 1, .int a1]) (st := []) (kX5_says l g cs ad 1 a1 σ) mwX5_says w1123 rfl rfl ⟨rfl, rfl⟩ ⟨(Nat.le_of_ble_eq_true rfl), (Nat.le_of_ble_eq_true rfl)⟩ rfl rfl (Nat.le_of_ble_eq_true rfl) dX5_isLoose_78 (fun r5 σ5 hr5 => ?_)
          refine tr_if_eq C (tgt := 88) dX5_isLoose_81 (by decide) (fun q10 => ?_) (fun q10 => ?_)
          · refine tr_iconst C (v := 0) dX5_isLoose_88 (by decide) ?_
            refine tr_istore_n C (i := 3) (lv' := [some (.ref (ad 0)), some (.int a1), some (.int (rd σ 5 a1)), some (.int 0)]) dX5_isLoose_89 rfl (by decide) rfl ?_
            refine tr_iload_n C (i := 2) dX5_isLoose_90 rfl rfl ?_
            refine tr_iconst C (v := 5) dX5_isLoose_91 (by decide) ?_
            refine tr_icmp_ne C (tgt := 107) dX5_isLoose_92 (by decide) (fun q7 => ?_) (fun q7 => ?_)
            · refine tr_iload_n C (i := 3) dX5_isLoose_95 rfl rfl ?_
              refine tr_if_ne C (tgt := 103) dX5_isLoose_96 (by decide) (fun q6 => ?_) (fun q6 => ?_)
              · refine tr_iconst C (v := 1) dX5_isLoose_99 (by decide) ?_
                refine tr_goto C (tgt := 108) dX5_isLoose_100 (by decide) ?_
                exact tr_zret C hr hlk rfl dX5_isLoose_108
              · refine tr_iconst C (v := 0) dX5_isLoose_103 (by decide) ?_
                refine tr_goto C (tgt := 108) dX5_isLoose_104 (by decide) ?_
                exact tr_zret C hr hlk rfl dX5_isLoose_108
            · refine tr_iload_n C (i := 3) dX5_isLoose_107 rfl rfl ?_
              exact tr_zret C hr hlk rfl dX5_isLoose_108
          · refine tr_iconst C (v := 1) dX5_isLoose_84 (by decide) ?_
            refine tr_goto C (tgt := 89) dX5_isLoose_85 (by decide) ?_
            refine tr_istore_n C (i := 3) (lv' := [some (.ref (ad 0)), some (.int a1), some (.int (rd σ 5 a1)), some (.int 1)]) dX5_isLoose_89 rfl (by decide) rfl ?_
            refine tr_iload_n C (i := 2) dX5_isLoose_90 rfl rfl ?_
            refine tr_iconst C (v := 5) dX5_isLoose_91 (by decide) ?_
            refine tr_icmp_ne C (tgt := 107) dX5_isLoose_92 (by decide) (fun q9 => ?_) (fun q9 => ?_)
            · refine tr_iload_n C (i := 3) dX5_isLoose_95 rfl rfl ?_
              refine tr_if_ne C (tgt := 103) dX5_isLoose_96 (by decide) (fun q8 => ?_) (fun q8 => ?_)
              · refine tr_iconst C (v := 1) dX5_isLoose_99 (by decide) ?_
                refine tr_goto C (tgt := 108) dX5_isLoose_100 (by decide) ?_
                exact tr_zret C hr hlk rfl dX5_isLoose_108
              · refine tr_iconst C (v := 0) dX5_isLoose_103 (by decide) ?_
                refine tr_goto C (tgt := 108) dX5_isLoose_104 (by decide) ?_
                exact tr_zret C hr hlk rfl dX5_isLoose_108
            · refine tr_iload_n C (i := 3) dX5_isLoose_107 rfl rfl ?_
              exact tr_zret C hr hlk rfl dX5_isLoose_108
def fX5_blownOf_b54 (a1 : Int32) (σ54 : Mem) (y2_54 : Int32) (z0_54 : Int32) : Option (Int32 × Mem) :=
  if y2_54 = 4 then (
    if z0_54 = 0 then (
      some (z0_54, σ54)
    ) else (
      if (z0_54 - z0_54 / 2 * 2) = 1 then (
        some (z0_54 + 1, σ54)
      ) else (
        some (z0_54 - 1, σ54)
      )
    )
  ) else (
    some (z0_54, σ54)
  )
def fX5_blownOf_b34 (a1 : Int32) (σ34 : Mem) (y2_34 : Int32) : Option (Int32 × Mem) :=
  bnd (fX5_says 2 a1 σ34) fun r1 σ1 => (
    if 0 ≤ (r1 - r1 / 5 * 5) then (
      fX5_blownOf_b54 a1 σ1 y2_34 (r1 - r1 / 5 * 5)
    ) else (
      fX5_blownOf_b54 a1 σ1 y2_34 ((r1 - r1 / 5 * 5) + 5)
    )
  )
def fX5_blownOf (a1 : Int32) (σ : Mem) : Option (Int32 × Mem) :=
  gd (inB a1 8) (
    if (rd σ 5 a1) = 1 then (
      some (0, σ)
    ) else (
      if (rd σ 5 a1) = 3 then (
        some (0, σ)
      ) else (
        if (rd σ 5 a1) = 5 then (
          gd (inB a1 8) (
            if 5 ≤ (rd σ 6 a1) then (
              fX5_blownOf_b34 a1 σ (rd σ 5 a1)
            ) else (
              some (0, σ)
            )
          )
        ) else (
          fX5_blownOf_b34 a1 σ (rd σ 5 a1)
        )
      )
    )
  )
set_option maxHeartbeats 4000000 in
set_option maxRecDepth 100000 in
theorem kX5_blownOf (l : Launch) (g : GG) (cs : CS) (ad : Nat → Nat) (a1 : Int32) (σ : Mem) : CtI l g cs ad (shM g) mX5_blownOf (.code mX5_blownOf cX5_blownOf 5 (some .int)) { frames := 76, cells := 0, slots := 0, locals := 2851 } [.ref (ad 0), .int a1] σ (fX5_blownOf a1 σ) := by
  refine ctI_intro (own := "KinInTheHeapModel") (by decide +kernel) rfl [some (.ref (ad 0)), some (.int a1), none, none, none] (Nat.le_of_ble_eq_true rfl) rfl ?_
  intro p e s m args below meth c A C hr hlk
  refine tr_aload_n C (i := 0) dX5_blownOf_0 rfl rfl ?_
  refine tr_getR C (k := 10) (ci := 5) rfl rfl rfl inT5 rfl (by decide) w958 dX5_blownOf_1 ?_
  refine tr_iload_n C (i := 1) dX5_blownOf_4 rfl rfl ?_
  refine tr_iald C (n := 8) rfl dX5_blownOf_5 (fun h11 => ?_)
  refine tr_istore_n C (i := 2) (lv' := [some (.ref (ad 0)), some (.int a1), some (.int (rd σ 5 a1)), none, none]) dX5_blownOf_6 rfl (by decide) rfl ?_
  refine tr_iload_n C (i := 2) dX5_blownOf_7 rfl rfl ?_
  refine tr_iconst C (v := 1) dX5_blownOf_8 (by decide) ?_
  refine tr_icmp_eq C (tgt := 32) dX5_blownOf_9 (by decide) (fun q10 => ?_) (fun q10 => ?_)
  · refine tr_iconst C (v := 0) dX5_blownOf_32 (by decide) ?_
    exact tr_iret C hr hlk dX5_blownOf_33
  · refine tr_iload_n C (i := 2) dX5_blownOf_12 rfl rfl ?_
    refine tr_iconst C (v := 3) dX5_blownOf_13 (by decide) ?_
    refine tr_icmp_eq C (tgt := 32) dX5_blownOf_14 (by decide) (fun q9 => ?_) (fun q9 => ?_)
    · refine tr_iconst C (v := 0) dX5_blownOf_32 (by decide) ?_
      exact tr_iret C hr hlk dX5_blownOf_33
    · refine tr_iload_n C (i := 2) dX5_blownOf_17 rfl rfl ?_
      refine tr_iconst C (v := 5) dX5_blownOf_18 (by decide) ?_
      have B34 : ∀ (σ34 : Mem) (y2_34 : Int32), Tr p l e { frames := 76, cells := 0, slots := 0, locals := 2851 } s m args below meth c g ad (shM g) A 5 (QI g ad (shM g) A below args s) (fX5_blownOf_b34 a1 σ34 y2_34) σ34 34 [some (.ref (ad 0)), some (.int a1), some (.int y2_34), none, none] [] := by
        intro σ34 y2_34
        refine tr_aload_n C (i := 0) dX5_blownOf_34 rfl rfl ?_
        refine tr_iconst C (v := 2) dX5_blownOf_35 (by decide) ?_
        refine tr_iload_n C (i := 1) dX5_blownOf_36 rfl rfl ?_
        refine tr_cVI C (av := [.int 2, .int a1]) (st := []) (kX5_says l g cs ad 2 a1 σ34) mwX5_says w1123 rfl rfl ⟨rfl, rfl⟩ ⟨(Nat.le_of_ble_eq_true rfl), (Nat.le_of_ble_eq_true rfl)⟩ rfl rfl (Nat.le_of_ble_eq_true rfl) dX5_blownOf_37 (fun r1 σ1 hr1 => ?_)
        refine tr_iconst C (v := 5) dX5_blownOf_40 (by decide) ?_
        refine tr_iremK C dX5_blownOf_41 (by decide) ?_
        refine tr_istore_n C (i := 3) (lv' := [some (.ref (ad 0)), some (.int a1), some (.int y2_34), some (.int (r1 - r1 / 5 * 5)), none]) dX5_blownOf_42 rfl (by decide) rfl ?_
        refine tr_iload_n C (i := 3) dX5_blownOf_43 rfl rfl ?_
        have B54 : ∀ (σ54 : Mem) (y2_54 : Int32) (z0_54 : Int32), Tr p l e { frames := 76, cells := 0, slots := 0, locals := 2851 } s m args below meth c g ad (shM g) A 5 (QI g ad (shM g) A below args s) (fX5_blownOf_b54 a1 σ54 y2_54 z0_54) σ54 54 [none, none, some (.int y2_54), none, none] [.int z0_54] := by
          intro σ54 y2_54 z0_54
          refine tr_istore C (i := 4) (lv' := [none, none, some (.int y2_54), none, some (.int z0_54)]) dX5_blownOf_54 (by decide) rfl ?_
          refine tr_iload_n C (i := 2) dX5_blownOf_56 rfl rfl ?_
          refine tr_iconst C (v := 4) dX5_blownOf_57 (by decide) ?_
          refine tr_icmp_ne C (tgt := 66) dX5_blownOf_58 (by decide) (fun q4 => ?_) (fun q4 => ?_)
          · refine tr_iload C (i := 4) dX5_blownOf_61 rfl ?_
            refine tr_if_ne C (tgt := 71) dX5_blownOf_63 (by decide) (fun q3 => ?_) (fun q3 => ?_)
            · refine tr_iload C (i := 4) dX5_blownOf_66 rfl ?_
              refine tr_goto C (tgt := 90) dX5_blownOf_68 (by decide) ?_
              exact tr_iret C hr hlk dX5_blownOf_90
            · refine tr_iload C (i := 4) dX5_blownOf_71 rfl ?_
              refine tr_iconst C (v := 2) dX5_blownOf_73 (by decide) ?_
              refine tr_iremK C dX5_blownOf_74 (by decide) ?_
              refine tr_iconst C (v := 1) dX5_blownOf_75 (by decide) ?_
              refine tr_icmp_ne C (tgt := 86) dX5_blownOf_76 (by decide) (fun q2 => ?_) (fun q2 => ?_)
              · refine tr_iload C (i := 4) dX5_blownOf_79 rfl ?_
                refine tr_iconst C (v := 1) dX5_blownOf_81 (by decide) ?_
                refine tr_iadd C dX5_blownOf_82 ?_
                refine tr_goto C (tgt := 90) dX5_blownOf_83 (by decide) ?_
                exact tr_iret C hr hlk dX5_blownOf_90
              · refine tr_iload C (i := 4) dX5_blownOf_86 rfl ?_
                refine tr_iconst C (v := 1) dX5_blownOf_88 (by decide) ?_
                refine tr_isub C dX5_blownOf_89 ?_
                exact tr_iret C hr hlk dX5_blownOf_90
          · refine tr_iload C (i := 4) dX5_blownOf_66 rfl ?_
            refine tr_goto C (tgt := 90) dX5_blownOf_68 (by decide) ?_
            exact tr_iret C hr hlk dX5_blownOf_90
        refine tr_if_ge C (tgt := 53) dX5_blownOf_44 (by decide) (fun q5 => ?_) (fun q5 => ?_)
        · refine tr_iload_n C (i := 3) dX5_blownOf_53 rfl rfl ?_
          refine tr_mask [false, false, true, false, false] rfl ?_
          exact B54 σ1 y2_34 (r1 - r1 / 5 * 5)
        · refine tr_iload_n C (i := 3) dX5_blownOf_47 rfl rfl ?_
          refine tr_iconst C (v := 5) dX5_blownOf_48 (by decide) ?_
          refine tr_iadd C dX5_blownOf_49 ?_
          refine tr_goto C (tgt := 54) dX5_blownOf_50 (by decide) ?_
          refine tr_mask [false, false, true, false, false] rfl ?_
          exact B54 σ1 y2_34 ((r1 - r1 / 5 * 5) + 5)
      refine tr_icmp_ne C (tgt := 34) dX5_blownOf_19 (by decide) (fun q8 => ?_) (fun q8 => ?_)
      · refine tr_aload_n C (i := 0) dX5_blownOf_22 rfl rfl ?_
        refine tr_getR C (k := 11) (ci := 5) rfl rfl rfl inT5 rfl (by decide) w959 dX5_blownOf_23 ?_
        refine tr_iload_n C (i := 1) dX5_blownOf_26 rfl rfl ?_
        refine tr_iald C (n := 8) rfl dX5_blownOf_27 (fun h7 => ?_)
        refine tr_iconst C (v := 5) dX5_blownOf_28 (by decide) ?_
        refine tr_icmp_ge C (tgt := 34) dX5_blownOf_29 (by decide) (fun q6 => ?_) (fun q6 => ?_)
        · exact B34 σ (rd σ 5 a1)
        · refine tr_iconst C (v := 0) dX5_blownOf_32 (by decide) ?_
          exact tr_iret C hr hlk dX5_blownOf_33
      · exact B34 σ (rd σ 5 a1)
def fX5_told_b86 (a1 : Int32) (a2 : Int32) (σ86 : Mem) : Option (Int32 × Mem) :=
  if a2 = 4 then (
    gd (inB a1 8) (
      some (rd σ86 7 a1, σ86)
    )
  ) else (
    if a2 = 5 then (
      gd (inB a1 8) (
        some (rd σ86 5 a1, σ86)
      )
    ) else (
      if a2 = 6 then (
        gd (inB a1 8) (
          bn1 (fX5_whoIn (rd σ86 7 a1) σ86) fun r4 => (
            some (r4, σ86)
          )
        )
      ) else (
        bn1 (fX5_whoIn a1 σ86) fun r3 => (
          some (r3, σ86)
        )
      )
    )
  )
def fX5_told (a1 : Int32) (a2 : Int32) (σ : Mem) : Option (Int32 × Mem) :=
  bn1 (fX5_in a2.toInt64 0 10 σ) fun r1 => (
    if r1 = 0 then (
      some (-1000, σ)
    ) else (
      bn1 (fX5_isOf a2 a1 σ) fun r2 => (
        if r2 = 0 then (
          some (-1000, σ)
        ) else (
          if 4 ≤ a2 then (
            if a2 < 7 then (
              fX5_told_b86 a1 a2 σ
            ) else (
              if a2 = 10 then (
                fX5_told_b86 a1 a2 σ
              ) else (
                gd (inB a1 8) (
                  if (rd σ 7 a1) = (-1) then (
                    some (-1, σ)
                  ) else (
                    if a2 = 7 then (
                      bnd (fX5_goesOf a1 σ) fun r15 σ15 => (
                        some (r15, σ15)
                      )
                    ) else (
                      if a2 = 8 then (
                        bnd (fX5_isLoose a1 σ) fun r12 σ12 => (
                          if r12 = 0 then (
                            some (0, σ12)
                          ) else (
                            some (1, σ12)
                          )
                        )
                      ) else (
                        bnd (fX5_blownOf a1 σ) fun r11 σ11 => (
                          some (r11, σ11)
                        )
                      )
                    )
                  )
                )
              )
            )
          ) else (
            if a2 = 0 then (
              some (σ.1 0 7, σ)
            ) else (
              if a2 = 1 then (
                some (σ.1 0 8, σ)
              ) else (
                if a2 = 2 then (
                  gd (inB a1 36) (
                    some (rd σ 4 a1, σ)
                  )
                ) else (
                  gd (inB a1 8) (
                    some (rd σ 6 a1, σ)
                  )
                )
              )
            )
          )
        )
      )
    )
  )
set_option maxHeartbeats 4000000 in
set_option maxRecDepth 100000 in
theorem kX5_told (l : Launch) (g : GG) (cs : CS) (ad : Nat → Nat) (a1 : Int32) (a2 : Int32) (σ : Mem) : CtI l g cs ad (shM g) mX5_told (.code mX5_told cX5_told 3 (some .int)) { frames := 77, cells := 0, slots := 0, locals := 2875 } [.ref (ad 0), .int a1, .int a2] σ (fX5_told a1 a2 σ) := by
  refine ctI_intro (own := "KinInTheHeapModel") (by decide +kernel) rfl [some (.ref (ad 0)), some (.int a1), some (.int a2)] (Nat.le_of_ble_eq_true rfl) rfl ?_
  intro p e s m args below meth c A C hr hlk
  refine tr_iload_n C (i := 2) dX5_told_0 rfl rfl ?_
  refine tr_i2l C dX5_told_1 ?_
  refine tr_lconst C (v := 0) dX5_told_2 (by decide) ?_
  refine tr_ldc2 C (v := 10) w1107 dX5_told_3 ?_
  refine tr_cSIP C (av := [.long a2.toInt64, .long 0, .long 10]) (st := []) (kX5_in l g cs ad a2.toInt64 0 10 σ) mwX5_in w1084 ⟨rfl, rfl⟩ ⟨(Nat.le_of_ble_eq_true rfl), (Nat.le_of_ble_eq_true rfl)⟩ rfl rfl (Nat.le_of_ble_eq_true rfl) dX5_told_6 (fun r1 hr1 => ?_)
  refine tr_if_eq C (tgt := 21) dX5_told_9 (by decide) (fun q28 => ?_) (fun q28 => ?_)
  · refine tr_sipush C (v := -1000) dX5_told_21 (by decide) ?_
    exact tr_iret C hr hlk dX5_told_24
  · refine tr_aload_n C (i := 0) dX5_told_12 rfl rfl ?_
    refine tr_iload_n C (i := 2) dX5_told_13 rfl rfl ?_
    refine tr_iload_n C (i := 1) dX5_told_14 rfl rfl ?_
    refine tr_cVIP C (av := [.int a2, .int a1]) (st := []) (kX5_isOf l g cs ad a2 a1 σ) mwX5_isOf w1087 rfl rfl ⟨rfl, rfl⟩ ⟨(Nat.le_of_ble_eq_true rfl), (Nat.le_of_ble_eq_true rfl)⟩ rfl rfl (Nat.le_of_ble_eq_true rfl) dX5_told_15 (fun r2 hr2 => ?_)
    refine tr_if_ne C (tgt := 25) dX5_told_18 (by decide) (fun q27 => ?_) (fun q27 => ?_)
    · refine tr_sipush C (v := -1000) dX5_told_21 (by decide) ?_
      exact tr_iret C hr hlk dX5_told_24
    · refine tr_iload_n C (i := 2) dX5_told_25 rfl rfl ?_
      refine tr_iconst C (v := 4) dX5_told_26 (by decide) ?_
      refine tr_icmp_ge C (tgt := 74) dX5_told_27 (by decide) (fun q26 => ?_) (fun q26 => ?_)
      · refine tr_iload_n C (i := 2) dX5_told_74 rfl rfl ?_
        refine tr_bipush C (v := 7) dX5_told_75 (by decide) ?_
        have B86 : ∀ (σ86 : Mem), Tr p l e { frames := 77, cells := 0, slots := 0, locals := 2875 } s m args below meth c g ad (shM g) A 3 (QI g ad (shM g) A below args s) (fX5_told_b86 a1 a2 σ86) σ86 86 [some (.ref (ad 0)), some (.int a1), some (.int a2)] [] := by
          intro σ86
          refine tr_iload_n C (i := 2) dX5_told_86 rfl rfl ?_
          refine tr_iconst C (v := 4) dX5_told_87 (by decide) ?_
          refine tr_icmp_ne C (tgt := 100) dX5_told_88 (by decide) (fun q10 => ?_) (fun q10 => ?_)
          · refine tr_aload_n C (i := 0) dX5_told_91 rfl rfl ?_
            refine tr_getR C (k := 12) (ci := 5) rfl rfl rfl inT5 rfl (by decide) w960 dX5_told_92 ?_
            refine tr_iload_n C (i := 1) dX5_told_95 rfl rfl ?_
            refine tr_iald C (n := 8) rfl dX5_told_96 (fun h9 => ?_)
            refine tr_goto C (tgt := 134) dX5_told_97 (by decide) ?_
            exact tr_iret C hr hlk dX5_told_134
          · refine tr_iload_n C (i := 2) dX5_told_100 rfl rfl ?_
            refine tr_iconst C (v := 5) dX5_told_101 (by decide) ?_
            refine tr_icmp_ne C (tgt := 114) dX5_told_102 (by decide) (fun q8 => ?_) (fun q8 => ?_)
            · refine tr_aload_n C (i := 0) dX5_told_105 rfl rfl ?_
              refine tr_getR C (k := 10) (ci := 5) rfl rfl rfl inT5 rfl (by decide) w958 dX5_told_106 ?_
              refine tr_iload_n C (i := 1) dX5_told_109 rfl rfl ?_
              refine tr_iald C (n := 8) rfl dX5_told_110 (fun h7 => ?_)
              refine tr_goto C (tgt := 134) dX5_told_111 (by decide) ?_
              exact tr_iret C hr hlk dX5_told_134
            · refine tr_aload_n C (i := 0) dX5_told_114 rfl rfl ?_
              refine tr_iload_n C (i := 2) dX5_told_115 rfl rfl ?_
              refine tr_bipush C (v := 6) dX5_told_116 (by decide) ?_
              refine tr_icmp_ne C (tgt := 130) dX5_told_118 (by decide) (fun q6 => ?_) (fun q6 => ?_)
              · refine tr_aload_n C (i := 0) dX5_told_121 rfl rfl ?_
                refine tr_getR C (k := 12) (ci := 5) rfl rfl rfl inT5 rfl (by decide) w960 dX5_told_122 ?_
                refine tr_iload_n C (i := 1) dX5_told_125 rfl rfl ?_
                refine tr_iald C (n := 8) rfl dX5_told_126 (fun h5 => ?_)
                refine tr_goto C (tgt := 131) dX5_told_127 (by decide) ?_
                refine tr_cVIP C (av := [.int (rd σ86 7 a1)]) (st := []) (kX5_whoIn l g cs ad (rd σ86 7 a1) σ86) mwX5_whoIn w1108 rfl rfl ⟨rfl, rfl⟩ ⟨(Nat.le_of_ble_eq_true rfl), (Nat.le_of_ble_eq_true rfl)⟩ rfl rfl (Nat.le_of_ble_eq_true rfl) dX5_told_131 (fun r4 hr4 => ?_)
                exact tr_iret C hr hlk dX5_told_134
              · refine tr_iload_n C (i := 1) dX5_told_130 rfl rfl ?_
                refine tr_cVIP C (av := [.int a1]) (st := []) (kX5_whoIn l g cs ad a1 σ86) mwX5_whoIn w1108 rfl rfl ⟨rfl, rfl⟩ ⟨(Nat.le_of_ble_eq_true rfl), (Nat.le_of_ble_eq_true rfl)⟩ rfl rfl (Nat.le_of_ble_eq_true rfl) dX5_told_131 (fun r3 hr3 => ?_)
                exact tr_iret C hr hlk dX5_told_134
        refine tr_icmp_lt C (tgt := 86) dX5_told_77 (by decide) (fun q20 => ?_) (fun q20 => ?_)
        · exact B86 σ
        · refine tr_iload_n C (i := 2) dX5_told_80 rfl rfl ?_
          refine tr_bipush C (v := 10) dX5_told_81 (by decide) ?_
          refine tr_icmp_ne C (tgt := 135) dX5_told_83 (by decide) (fun q19 => ?_) (fun q19 => ?_)
          · exact B86 σ
          · refine tr_aload_n C (i := 0) dX5_told_135 rfl rfl ?_
            refine tr_getR C (k := 12) (ci := 5) rfl rfl rfl inT5 rfl (by decide) w960 dX5_told_136 ?_
            refine tr_iload_n C (i := 1) dX5_told_139 rfl rfl ?_
            refine tr_iald C (n := 8) rfl dX5_told_140 (fun h18 => ?_)
            refine tr_iconst C (v := -1) dX5_told_141 (by decide) ?_
            refine tr_icmp_ne C (tgt := 147) dX5_told_142 (by decide) (fun q17 => ?_) (fun q17 => ?_)
            · refine tr_iconst C (v := -1) dX5_told_145 (by decide) ?_
              exact tr_iret C hr hlk dX5_told_146
            · refine tr_iload_n C (i := 2) dX5_told_147 rfl rfl ?_
              refine tr_bipush C (v := 7) dX5_told_148 (by decide) ?_
              refine tr_icmp_ne C (tgt := 161) dX5_told_150 (by decide) (fun q16 => ?_) (fun q16 => ?_)
              · refine tr_aload_n C (i := 0) dX5_told_153 rfl rfl ?_
                refine tr_iload_n C (i := 1) dX5_told_154 rfl rfl ?_
                refine tr_cVI C (av := [.int a1]) (st := []) (kX5_goesOf l g cs ad a1 σ) mwX5_goesOf w1112 rfl rfl ⟨rfl, rfl⟩ ⟨(Nat.le_of_ble_eq_true rfl), (Nat.le_of_ble_eq_true rfl)⟩ rfl rfl (Nat.le_of_ble_eq_true rfl) dX5_told_155 (fun r15 σ15 hr15 => ?_)
                refine tr_goto C (tgt := 188) dX5_told_158 (by decide) ?_
                exact tr_iret C hr hlk dX5_told_188
              · refine tr_iload_n C (i := 2) dX5_told_161 rfl rfl ?_
                refine tr_bipush C (v := 8) dX5_told_162 (by decide) ?_
                refine tr_icmp_ne C (tgt := 183) dX5_told_164 (by decide) (fun q14 => ?_) (fun q14 => ?_)
                · refine tr_aload_n C (i := 0) dX5_told_167 rfl rfl ?_
                  refine tr_iload_n C (i := 1) dX5_told_168 rfl rfl ?_
                  refine tr_cVI C (av := [.int a1]) (st := []) (kX5_isLoose l g cs ad a1 σ) mwX5_isLoose w1200 rfl rfl ⟨rfl, rfl⟩ ⟨(Nat.le_of_ble_eq_true rfl), (Nat.le_of_ble_eq_true rfl)⟩ rfl rfl (Nat.le_of_ble_eq_true rfl) dX5_told_169 (fun r12 σ12 hr12 => ?_)
                  refine tr_if_eq C (tgt := 179) dX5_told_172 (by decide) (fun q13 => ?_) (fun q13 => ?_)
                  · refine tr_iconst C (v := 0) dX5_told_179 (by decide) ?_
                    refine tr_goto C (tgt := 188) dX5_told_180 (by decide) ?_
                    exact tr_iret C hr hlk dX5_told_188
                  · refine tr_iconst C (v := 1) dX5_told_175 (by decide) ?_
                    refine tr_goto C (tgt := 188) dX5_told_176 (by decide) ?_
                    exact tr_iret C hr hlk dX5_told_188
                · refine tr_aload_n C (i := 0) dX5_told_183 rfl rfl ?_
                  refine tr_iload_n C (i := 1) dX5_told_184 rfl rfl ?_
                  refine tr_cVI C (av := [.int a1]) (st := []) (kX5_blownOf l g cs ad a1 σ) mwX5_blownOf w1204 rfl rfl ⟨rfl, rfl⟩ ⟨(Nat.le_of_ble_eq_true rfl), (Nat.le_of_ble_eq_true rfl)⟩ rfl rfl (Nat.le_of_ble_eq_true rfl) dX5_told_185 (fun r11 σ11 hr11 => ?_)
                  exact tr_iret C hr hlk dX5_told_188
      · refine tr_iload_n C (i := 2) dX5_told_30 rfl rfl ?_
        refine tr_if_ne C (tgt := 41) dX5_told_31 (by decide) (fun q25 => ?_) (fun q25 => ?_)
        · refine tr_aload_n C (i := 0) dX5_told_34 rfl rfl ?_
          refine tr_getI C (k := 7) (ci := 5) rfl rfl rfl inT5 rfl (by decide) w955 dX5_told_35 ?_
          refine tr_goto C (tgt := 73) dX5_told_38 (by decide) ?_
          exact tr_iret C hr hlk dX5_told_73
        · refine tr_iload_n C (i := 2) dX5_told_41 rfl rfl ?_
          refine tr_iconst C (v := 1) dX5_told_42 (by decide) ?_
          refine tr_icmp_ne C (tgt := 53) dX5_told_43 (by decide) (fun q24 => ?_) (fun q24 => ?_)
          · refine tr_aload_n C (i := 0) dX5_told_46 rfl rfl ?_
            refine tr_getI C (k := 8) (ci := 5) rfl rfl rfl inT5 rfl (by decide) w956 dX5_told_47 ?_
            refine tr_goto C (tgt := 73) dX5_told_50 (by decide) ?_
            exact tr_iret C hr hlk dX5_told_73
          · refine tr_iload_n C (i := 2) dX5_told_53 rfl rfl ?_
            refine tr_iconst C (v := 2) dX5_told_54 (by decide) ?_
            refine tr_icmp_ne C (tgt := 67) dX5_told_55 (by decide) (fun q23 => ?_) (fun q23 => ?_)
            · refine tr_aload_n C (i := 0) dX5_told_58 rfl rfl ?_
              refine tr_getR C (k := 9) (ci := 5) rfl rfl rfl inT5 rfl (by decide) w957 dX5_told_59 ?_
              refine tr_iload_n C (i := 1) dX5_told_62 rfl rfl ?_
              refine tr_iald C (n := 36) rfl dX5_told_63 (fun h22 => ?_)
              refine tr_goto C (tgt := 73) dX5_told_64 (by decide) ?_
              exact tr_iret C hr hlk dX5_told_73
            · refine tr_aload_n C (i := 0) dX5_told_67 rfl rfl ?_
              refine tr_getR C (k := 11) (ci := 5) rfl rfl rfl inT5 rfl (by decide) w959 dX5_told_68 ?_
              refine tr_iload_n C (i := 1) dX5_told_71 rfl rfl ?_
              refine tr_iald C (n := 8) rfl dX5_told_72 (fun h21 => ?_)
              exact tr_iret C hr hlk dX5_told_73
def fX5_lays_b18 (a1 : Int32) (a2 : Int32) (a3 : Int32) (σ18 : Mem) (z0_18 : Int32) : Option (Mem) :=
  stp (putI σ18 0 7 z0_18) fun σw14 => (
    if a1 = 1 then (
      stp (putI σw14 0 8 a3) fun σw16 => (
        some σw16
      )
    ) else (
      stp (putI σw14 0 8 (σw14.1 0 8)) fun σw15 => (
        some σw15
      )
    )
  )
def fX5_lays (a1 : Int32) (a2 : Int32) (a3 : Int32) (σ : Mem) : Option (Mem) :=
  if 2 ≤ a1 then (
    if a1 = 2 then (
      gd (inB a2 36) (stp (wr σ 4 a2 a3) fun σw11 => (
        some σw11
      ))
    ) else (
      if a1 = 3 then (
        gd (inB a2 8) (stp (wr σ 6 a2 a3) fun σw8 => (
          some σw8
        ))
      ) else (
        if a1 = 4 then (
          gd (inB a2 8) (stp (wr σ 7 a2 a3) fun σw5 => (
            some σw5
          ))
        ) else (
          if a1 = 5 then (
            gd (inB a2 8) (stp (wr σ 5 a2 a3) fun σw2 => (
              some σw2
            ))
          ) else (
            stp (putI σ 0 4 a3) fun σw1 => (
              some σw1
            )
          )
        )
      )
    )
  ) else (
    if a1 = 0 then (
      fX5_lays_b18 a1 a2 a3 σ a3
    ) else (
      fX5_lays_b18 a1 a2 a3 σ (σ.1 0 7)
    )
  )
set_option maxHeartbeats 4000000 in
set_option maxRecDepth 100000 in
theorem kX5_lays (l : Launch) (g : GG) (cs : CS) (ad : Nat → Nat) (a1 : Int32) (a2 : Int32) (a3 : Int32) (σ : Mem) : CtV l g cs ad (shM g) mX5_lays (.code mX5_lays cX5_lays 4 none) { frames := 0, cells := 0, slots := 0, locals := 0 } [.ref (ad 0), .int a1, .int a2, .int a3] σ (fX5_lays a1 a2 a3 σ) := by
  refine ctV_intro (own := "KinInTheHeapModel") (by decide +kernel) rfl [some (.ref (ad 0)), some (.int a1), some (.int a2), some (.int a3)] (Nat.le_of_ble_eq_true rfl) rfl ?_
  intro p e s m args below meth c A C hr hlk
  refine tr_iload_n C (i := 1) dX5_lays_0 rfl rfl ?_
  refine tr_iconst C (v := 2) dX5_lays_1 (by decide) ?_
  refine tr_icmp_ge C (tgt := 41) dX5_lays_2 (by decide) (fun q19 => ?_) (fun q19 => ?_)
  · refine tr_iload_n C (i := 1) dX5_lays_41 rfl rfl ?_
    refine tr_iconst C (v := 2) dX5_lays_42 (by decide) ?_
    refine tr_icmp_ne C (tgt := 56) dX5_lays_43 (by decide) (fun q13 => ?_) (fun q13 => ?_)
    · refine tr_aload_n C (i := 0) dX5_lays_46 rfl rfl ?_
      refine tr_getR C (k := 9) (ci := 5) rfl rfl rfl inT5 rfl (by decide) w957 dX5_lays_47 ?_
      refine tr_iload_n C (i := 2) dX5_lays_50 rfl rfl ?_
      refine tr_iload_n C (i := 3) dX5_lays_51 rfl rfl ?_
      refine tr_iast C (n := 36) (σ' := wr σ 4 a2 a3) rfl dX5_lays_52 rfl (fun h12 => ?_)
      refine tr_stp (fun σw11 eσw11 => ?_)
      refine tr_goto C (tgt := 106) dX5_lays_53 (by decide) ?_
      exact tr_vret C hr hlk dX5_lays_106
    · refine tr_iload_n C (i := 1) dX5_lays_56 rfl rfl ?_
      refine tr_iconst C (v := 3) dX5_lays_57 (by decide) ?_
      refine tr_icmp_ne C (tgt := 71) dX5_lays_58 (by decide) (fun q10 => ?_) (fun q10 => ?_)
      · refine tr_aload_n C (i := 0) dX5_lays_61 rfl rfl ?_
        refine tr_getR C (k := 11) (ci := 5) rfl rfl rfl inT5 rfl (by decide) w959 dX5_lays_62 ?_
        refine tr_iload_n C (i := 2) dX5_lays_65 rfl rfl ?_
        refine tr_iload_n C (i := 3) dX5_lays_66 rfl rfl ?_
        refine tr_iast C (n := 8) (σ' := wr σ 6 a2 a3) rfl dX5_lays_67 rfl (fun h9 => ?_)
        refine tr_stp (fun σw8 eσw8 => ?_)
        refine tr_goto C (tgt := 106) dX5_lays_68 (by decide) ?_
        exact tr_vret C hr hlk dX5_lays_106
      · refine tr_iload_n C (i := 1) dX5_lays_71 rfl rfl ?_
        refine tr_iconst C (v := 4) dX5_lays_72 (by decide) ?_
        refine tr_icmp_ne C (tgt := 86) dX5_lays_73 (by decide) (fun q7 => ?_) (fun q7 => ?_)
        · refine tr_aload_n C (i := 0) dX5_lays_76 rfl rfl ?_
          refine tr_getR C (k := 12) (ci := 5) rfl rfl rfl inT5 rfl (by decide) w960 dX5_lays_77 ?_
          refine tr_iload_n C (i := 2) dX5_lays_80 rfl rfl ?_
          refine tr_iload_n C (i := 3) dX5_lays_81 rfl rfl ?_
          refine tr_iast C (n := 8) (σ' := wr σ 7 a2 a3) rfl dX5_lays_82 rfl (fun h6 => ?_)
          refine tr_stp (fun σw5 eσw5 => ?_)
          refine tr_goto C (tgt := 106) dX5_lays_83 (by decide) ?_
          exact tr_vret C hr hlk dX5_lays_106
        · refine tr_iload_n C (i := 1) dX5_lays_86 rfl rfl ?_
          refine tr_iconst C (v := 5) dX5_lays_87 (by decide) ?_
          refine tr_icmp_ne C (tgt := 101) dX5_lays_88 (by decide) (fun q4 => ?_) (fun q4 => ?_)
          · refine tr_aload_n C (i := 0) dX5_lays_91 rfl rfl ?_
            refine tr_getR C (k := 10) (ci := 5) rfl rfl rfl inT5 rfl (by decide) w958 dX5_lays_92 ?_
            refine tr_iload_n C (i := 2) dX5_lays_95 rfl rfl ?_
            refine tr_iload_n C (i := 3) dX5_lays_96 rfl rfl ?_
            refine tr_iast C (n := 8) (σ' := wr σ 5 a2 a3) rfl dX5_lays_97 rfl (fun h3 => ?_)
            refine tr_stp (fun σw2 eσw2 => ?_)
            refine tr_goto C (tgt := 106) dX5_lays_98 (by decide) ?_
            exact tr_vret C hr hlk dX5_lays_106
          · refine tr_aload_n C (i := 0) dX5_lays_101 rfl rfl ?_
            refine tr_iload_n C (i := 3) dX5_lays_102 rfl rfl ?_
            refine tr_putI C (k := 4) (ci := 5) (σ' := putI σ 0 4 a3) rfl rfl rfl inT5 rfl (by decide) tyX5 tyX5_ok nmX5 rfl rfl w952 dX5_lays_103 rfl ?_
            refine tr_stp (fun σw1 eσw1 => ?_)
            exact tr_vret C hr hlk dX5_lays_106
  · refine tr_aload_n C (i := 0) dX5_lays_5 rfl rfl ?_
    refine tr_iload_n C (i := 1) dX5_lays_6 rfl rfl ?_
    have B18 : ∀ (σ18 : Mem) (z0_18 : Int32), Tr p l e { frames := 0, cells := 0, slots := 0, locals := 0 } s m args below meth c g ad (shM g) A 4 (QV g ad (shM g) A below args s) (fX5_lays_b18 a1 a2 a3 σ18 z0_18) σ18 18 [some (.ref (ad 0)), some (.int a1), none, some (.int a3)] [.int z0_18, .ref (ad 0)] := by
      intro σ18 z0_18
      refine tr_putI C (k := 7) (ci := 5) (σ' := putI σ18 0 7 z0_18) rfl rfl rfl inT5 rfl (by decide) tyX5 tyX5_ok nmX5 rfl rfl w955 dX5_lays_18 rfl ?_
      refine tr_stp (fun σw14 eσw14 => ?_)
      refine tr_aload_n C (i := 0) dX5_lays_21 rfl rfl ?_
      refine tr_iload_n C (i := 1) dX5_lays_22 rfl rfl ?_
      refine tr_iconst C (v := 1) dX5_lays_23 (by decide) ?_
      refine tr_icmp_ne C (tgt := 31) dX5_lays_24 (by decide) (fun q17 => ?_) (fun q17 => ?_)
      · refine tr_iload_n C (i := 3) dX5_lays_27 rfl rfl ?_
        refine tr_goto C (tgt := 35) dX5_lays_28 (by decide) ?_
        refine tr_putI C (k := 8) (ci := 5) (σ' := putI σw14 0 8 a3) rfl rfl rfl inT5 rfl (by decide) tyX5 tyX5_ok nmX5 rfl rfl w956 dX5_lays_35 rfl ?_
        refine tr_stp (fun σw16 eσw16 => ?_)
        refine tr_goto C (tgt := 106) dX5_lays_38 (by decide) ?_
        exact tr_vret C hr hlk dX5_lays_106
      · refine tr_aload_n C (i := 0) dX5_lays_31 rfl rfl ?_
        refine tr_getI C (k := 8) (ci := 5) rfl rfl rfl inT5 rfl (by decide) w956 dX5_lays_32 ?_
        refine tr_putI C (k := 8) (ci := 5) (σ' := putI σw14 0 8 (σw14.1 0 8)) rfl rfl rfl inT5 rfl (by decide) tyX5 tyX5_ok nmX5 rfl rfl w956 dX5_lays_35 rfl ?_
        refine tr_stp (fun σw15 eσw15 => ?_)
        refine tr_goto C (tgt := 106) dX5_lays_38 (by decide) ?_
        exact tr_vret C hr hlk dX5_lays_106
    refine tr_if_ne C (tgt := 14) dX5_lays_7 (by decide) (fun q18 => ?_) (fun q18 => ?_)
    · refine tr_iload_n C (i := 3) dX5_lays_10 rfl rfl ?_
      refine tr_goto C (tgt := 18) dX5_lays_11 (by decide) ?_
      refine tr_mask [true, true, false, true] rfl ?_
      exact B18 σ a3
    · refine tr_aload_n C (i := 0) dX5_lays_14 rfl rfl ?_
      refine tr_getI C (k := 7) (ci := 5) rfl rfl rfl inT5 rfl (by decide) w955 dX5_lays_15 ?_
      refine tr_mask [true, true, false, true] rfl ?_
      exact B18 σ (σ.1 0 7)
def fX5_set_b35 (a1 : Int32) (a2 : Int32) (a3 : Int32) (σ35 : Mem) (z0_35 : Int64) (z1_35 : Int64) : Option (Int32 × Mem) :=
  bn1 (fX5_mostOf a1 σ35) fun r3 => (
    bn1 (fX5_in z1_35 z0_35 r3.toInt64 σ35) fun r4 => (
      if r4 = 0 then (
        some (-1000, σ35)
      ) else (
        bnd (fX5_told a2 a1 σ35) fun r5 σ5 => (
          bn1 (fX5_lays a1 a2 a3 σ5) fun σ6 => (
            some (r5, σ6)
          )
        )
      )
    )
  )
def fX5_set (a1 : Int32) (a2 : Int32) (a3 : Int32) (σ : Mem) : Option (Int32 × Mem) :=
  bn1 (fX5_in a1.toInt64 0 4 σ) fun r1 => (
    if r1 = 0 then (
      some (-1000, σ)
    ) else (
      bn1 (fX5_isOf a1 a2 σ) fun r2 => (
        if r2 = 0 then (
          some (-1000, σ)
        ) else (
          if a1 = 4 then (
            fX5_set_b35 a1 a2 a3 σ (-1) a3.toInt64
          ) else (
            fX5_set_b35 a1 a2 a3 σ 0 a3.toInt64
          )
        )
      )
    )
  )
set_option maxHeartbeats 4000000 in
set_option maxRecDepth 100000 in
theorem kX5_set (l : Launch) (g : GG) (cs : CS) (ad : Nat → Nat) (a1 : Int32) (a2 : Int32) (a3 : Int32) (σ : Mem) : CtI l g cs ad (shM g) mX5_set (.code mX5_set cX5_set 5 (some .int)) { frames := 78, cells := 0, slots := 0, locals := 2897 } [.ref (ad 0), .int a1, .int a2, .int a3] σ (fX5_set a1 a2 a3 σ) := by
  refine ctI_intro (own := "KinInTheHeapModel") (by decide +kernel) rfl [some (.ref (ad 0)), some (.int a1), some (.int a2), some (.int a3), none] (Nat.le_of_ble_eq_true rfl) rfl ?_
  intro p e s m args below meth c A C hr hlk
  refine tr_iload_n C (i := 1) dX5_set_0 rfl rfl ?_
  refine tr_i2l C dX5_set_1 ?_
  refine tr_lconst C (v := 0) dX5_set_2 (by decide) ?_
  refine tr_ldc2 C (v := 4) w1083 dX5_set_3 ?_
  refine tr_cSIP C (av := [.long a1.toInt64, .long 0, .long 4]) (st := []) (kX5_in l g cs ad a1.toInt64 0 4 σ) mwX5_in w1084 ⟨rfl, rfl⟩ ⟨(Nat.le_of_ble_eq_true rfl), (Nat.le_of_ble_eq_true rfl)⟩ rfl rfl (Nat.le_of_ble_eq_true rfl) dX5_set_6 (fun r1 hr1 => ?_)
  refine tr_if_eq C (tgt := 46) dX5_set_9 (by decide) (fun q10 => ?_) (fun q10 => ?_)
  · refine tr_sipush C (v := -1000) dX5_set_46 (by decide) ?_
    exact tr_iret C hr hlk dX5_set_49
  · refine tr_aload_n C (i := 0) dX5_set_12 rfl rfl ?_
    refine tr_iload_n C (i := 1) dX5_set_13 rfl rfl ?_
    refine tr_iload_n C (i := 2) dX5_set_14 rfl rfl ?_
    refine tr_cVIP C (av := [.int a1, .int a2]) (st := []) (kX5_isOf l g cs ad a1 a2 σ) mwX5_isOf w1087 rfl rfl ⟨rfl, rfl⟩ ⟨(Nat.le_of_ble_eq_true rfl), (Nat.le_of_ble_eq_true rfl)⟩ rfl rfl (Nat.le_of_ble_eq_true rfl) dX5_set_15 (fun r2 hr2 => ?_)
    refine tr_if_eq C (tgt := 46) dX5_set_18 (by decide) (fun q9 => ?_) (fun q9 => ?_)
    · refine tr_sipush C (v := -1000) dX5_set_46 (by decide) ?_
      exact tr_iret C hr hlk dX5_set_49
    · refine tr_iload_n C (i := 3) dX5_set_21 rfl rfl ?_
      refine tr_i2l C dX5_set_22 ?_
      refine tr_iload_n C (i := 1) dX5_set_23 rfl rfl ?_
      refine tr_iconst C (v := 4) dX5_set_24 (by decide) ?_
      have B35 : ∀ (σ35 : Mem) (z0_35 : Int64) (z1_35 : Int64), Tr p l e { frames := 78, cells := 0, slots := 0, locals := 2897 } s m args below meth c g ad (shM g) A 5 (QI g ad (shM g) A below args s) (fX5_set_b35 a1 a2 a3 σ35 z0_35 z1_35) σ35 35 [some (.ref (ad 0)), some (.int a1), some (.int a2), some (.int a3), none] [.long z0_35, .long z1_35] := by
        intro σ35 z0_35 z1_35
        refine tr_iload_n C (i := 1) dX5_set_35 rfl rfl ?_
        refine tr_cSIP C (av := [.int a1]) (st := [.long z0_35, .long z1_35]) (kX5_mostOf l g cs ad a1 σ35) mwX5_mostOf w1100 ⟨rfl, rfl⟩ ⟨(Nat.le_of_ble_eq_true rfl), (Nat.le_of_ble_eq_true rfl)⟩ rfl rfl (Nat.le_of_ble_eq_true rfl) dX5_set_36 (fun r3 hr3 => ?_)
        refine tr_i2l C dX5_set_39 ?_
        refine tr_cSIP C (av := [.long z1_35, .long z0_35, .long r3.toInt64]) (st := []) (kX5_in l g cs ad z1_35 z0_35 r3.toInt64 σ35) mwX5_in w1084 ⟨rfl, rfl⟩ ⟨(Nat.le_of_ble_eq_true rfl), (Nat.le_of_ble_eq_true rfl)⟩ rfl rfl (Nat.le_of_ble_eq_true rfl) dX5_set_40 (fun r4 hr4 => ?_)
        refine tr_if_ne C (tgt := 50) dX5_set_43 (by decide) (fun q7 => ?_) (fun q7 => ?_)
        · refine tr_sipush C (v := -1000) dX5_set_46 (by decide) ?_
          exact tr_iret C hr hlk dX5_set_49
        · refine tr_aload_n C (i := 0) dX5_set_50 rfl rfl ?_
          refine tr_iload_n C (i := 2) dX5_set_51 rfl rfl ?_
          refine tr_iload_n C (i := 1) dX5_set_52 rfl rfl ?_
          refine tr_cVI C (av := [.int a2, .int a1]) (st := []) (kX5_told l g cs ad a2 a1 σ35) mwX5_told w1103 rfl rfl ⟨rfl, rfl⟩ ⟨(Nat.le_of_ble_eq_true rfl), (Nat.le_of_ble_eq_true rfl)⟩ rfl rfl (Nat.le_of_ble_eq_true rfl) dX5_set_53 (fun r5 σ5 hr5 => ?_)
          refine tr_istore C (i := 4) (lv' := [some (.ref (ad 0)), some (.int a1), some (.int a2), some (.int a3), some (.int r5)]) dX5_set_56 (by decide) rfl ?_
          refine tr_aload_n C (i := 0) dX5_set_58 rfl rfl ?_
          refine tr_iload_n C (i := 1) dX5_set_59 rfl rfl ?_
          refine tr_iload_n C (i := 2) dX5_set_60 rfl rfl ?_
          refine tr_iload_n C (i := 3) dX5_set_61 rfl rfl ?_
          refine tr_cVV C (av := [.int a1, .int a2, .int a3]) (st := []) (kX5_lays l g cs ad a1 a2 a3 σ5) mwX5_lays w1208 rfl rfl ⟨rfl, rfl⟩ ⟨(Nat.le_of_ble_eq_true rfl), (Nat.le_of_ble_eq_true rfl)⟩ rfl rfl (Nat.le_of_ble_eq_true rfl) dX5_set_62 (fun σ6 hr6 => ?_)
          refine tr_iload C (i := 4) dX5_set_65 rfl ?_
          exact tr_iret C hr hlk dX5_set_67
      refine tr_icmp_ne C (tgt := 34) dX5_set_25 (by decide) (fun q8 => ?_) (fun q8 => ?_)
      · refine tr_ldc2 C (v := -1) w1099 dX5_set_28 ?_
        refine tr_goto C (tgt := 35) dX5_set_31 (by decide) ?_
        exact B35 σ (-1) a3.toInt64
      · refine tr_lconst C (v := 0) dX5_set_34 (by decide) ?_
        exact B35 σ 0 a3.toInt64
def fX5_dust (a1 : Int32) (a2 : Int32) (a3 : Int32) (σ : Mem) : Option (Int32 × Mem) :=
  bn1 (fX5_in a1.toInt64 0 5 σ) fun r1 => (
    if r1 = 0 then (
      some (-2, σ)
    ) else (
      bn1 (fX5_in a2.toInt64 0 9 σ) fun r2 => (
        if r2 = 0 then (
          some (-2, σ)
        ) else (
          bn1 (fX5_isCell a3 σ) fun r3 => (
            if r3 = 0 then (
              some (-2, σ)
            ) else (
              if (σ.1 0 13) = 8 then (
                some (-4, σ)
              ) else (
                gd (inB (σ.1 0 13) 8) (stp (wr σ 5 (σ.1 0 13) a1) fun σw4 => (
                  gd (inB (σw4.1 0 13) 8) (stp (wr σw4 6 (σw4.1 0 13) a2) fun σw5 => (
                    gd (inB (σw5.1 0 13) 8) (stp (wr σw5 7 (σw5.1 0 13) a3) fun σw6 => (
                      stp (putI σw6 0 13 ((σw6.1 0 13) + 1)) fun σw7 => (
                        some ((σw7.1 0 13) - 1, σw7)
                      )
                    ))
                  ))
                ))
              )
            )
          )
        )
      )
    )
  )
set_option maxHeartbeats 4000000 in
set_option maxRecDepth 100000 in
theorem kX5_dust (l : Launch) (g : GG) (cs : CS) (ad : Nat → Nat) (a1 : Int32) (a2 : Int32) (a3 : Int32) (σ : Mem) : CtI l g cs ad (shM g) mX5_dust (.code mX5_dust cX5_dust 4 (some .int)) { frames := 2, cells := 0, slots := 0, locals := 45 } [.ref (ad 0), .int a1, .int a2, .int a3] σ (fX5_dust a1 a2 a3 σ) := by
  refine ctI_intro (own := "KinInTheHeapModel") (by decide +kernel) rfl [some (.ref (ad 0)), some (.int a1), some (.int a2), some (.int a3)] (Nat.le_of_ble_eq_true rfl) rfl ?_
  intro p e s m args below meth c A C hr hlk
  refine tr_iload_n C (i := 1) dX5_dust_0 rfl rfl ?_
  refine tr_i2l C dX5_dust_1 ?_
  refine tr_lconst C (v := 0) dX5_dust_2 (by decide) ?_
  refine tr_ldc2 C (v := 5) w1216 dX5_dust_3 ?_
  refine tr_cSIP C (av := [.long a1.toInt64, .long 0, .long 5]) (st := []) (kX5_in l g cs ad a1.toInt64 0 5 σ) mwX5_in w1084 ⟨rfl, rfl⟩ ⟨(Nat.le_of_ble_eq_true rfl), (Nat.le_of_ble_eq_true rfl)⟩ rfl rfl (Nat.le_of_ble_eq_true rfl) dX5_dust_6 (fun r1 hr1 => ?_)
  refine tr_if_eq C (tgt := 31) dX5_dust_9 (by decide) (fun q14 => ?_) (fun q14 => ?_)
  · refine tr_bipush C (v := -2) dX5_dust_31 (by decide) ?_
    exact tr_iret C hr hlk dX5_dust_33
  · refine tr_iload_n C (i := 2) dX5_dust_12 rfl rfl ?_
    refine tr_i2l C dX5_dust_13 ?_
    refine tr_lconst C (v := 0) dX5_dust_14 (by decide) ?_
    refine tr_ldc2 C (v := 9) w1217 dX5_dust_15 ?_
    refine tr_cSIP C (av := [.long a2.toInt64, .long 0, .long 9]) (st := []) (kX5_in l g cs ad a2.toInt64 0 9 σ) mwX5_in w1084 ⟨rfl, rfl⟩ ⟨(Nat.le_of_ble_eq_true rfl), (Nat.le_of_ble_eq_true rfl)⟩ rfl rfl (Nat.le_of_ble_eq_true rfl) dX5_dust_18 (fun r2 hr2 => ?_)
    refine tr_if_eq C (tgt := 31) dX5_dust_21 (by decide) (fun q13 => ?_) (fun q13 => ?_)
    · refine tr_bipush C (v := -2) dX5_dust_31 (by decide) ?_
      exact tr_iret C hr hlk dX5_dust_33
    · refine tr_iload_n C (i := 3) dX5_dust_24 rfl rfl ?_
      refine tr_cSIP C (av := [.int a3]) (st := []) (kX5_isCell l g cs ad a3 σ) mwX5_isCell w1091 ⟨rfl, rfl⟩ ⟨(Nat.le_of_ble_eq_true rfl), (Nat.le_of_ble_eq_true rfl)⟩ rfl rfl (Nat.le_of_ble_eq_true rfl) dX5_dust_25 (fun r3 hr3 => ?_)
      refine tr_if_ne C (tgt := 34) dX5_dust_28 (by decide) (fun q12 => ?_) (fun q12 => ?_)
      · refine tr_bipush C (v := -2) dX5_dust_31 (by decide) ?_
        exact tr_iret C hr hlk dX5_dust_33
      · refine tr_aload_n C (i := 0) dX5_dust_34 rfl rfl ?_
        refine tr_getI C (k := 13) (ci := 5) rfl rfl rfl inT5 rfl (by decide) w961 dX5_dust_35 ?_
        refine tr_bipush C (v := 8) dX5_dust_38 (by decide) ?_
        refine tr_icmp_ne C (tgt := 46) dX5_dust_40 (by decide) (fun q11 => ?_) (fun q11 => ?_)
        · refine tr_bipush C (v := -4) dX5_dust_43 (by decide) ?_
          exact tr_iret C hr hlk dX5_dust_45
        · refine tr_aload_n C (i := 0) dX5_dust_46 rfl rfl ?_
          refine tr_getR C (k := 10) (ci := 5) rfl rfl rfl inT5 rfl (by decide) w958 dX5_dust_47 ?_
          refine tr_aload_n C (i := 0) dX5_dust_50 rfl rfl ?_
          refine tr_getI C (k := 13) (ci := 5) rfl rfl rfl inT5 rfl (by decide) w961 dX5_dust_51 ?_
          refine tr_iload_n C (i := 1) dX5_dust_54 rfl rfl ?_
          refine tr_iast C (n := 8) (σ' := wr σ 5 (σ.1 0 13) a1) rfl dX5_dust_55 rfl (fun h10 => ?_)
          refine tr_stp (fun σw4 eσw4 => ?_)
          refine tr_aload_n C (i := 0) dX5_dust_56 rfl rfl ?_
          refine tr_getR C (k := 11) (ci := 5) rfl rfl rfl inT5 rfl (by decide) w959 dX5_dust_57 ?_
          refine tr_aload_n C (i := 0) dX5_dust_60 rfl rfl ?_
          refine tr_getI C (k := 13) (ci := 5) rfl rfl rfl inT5 rfl (by decide) w961 dX5_dust_61 ?_
          refine tr_iload_n C (i := 2) dX5_dust_64 rfl rfl ?_
          refine tr_iast C (n := 8) (σ' := wr σw4 6 (σw4.1 0 13) a2) rfl dX5_dust_65 rfl (fun h9 => ?_)
          refine tr_stp (fun σw5 eσw5 => ?_)
          refine tr_aload_n C (i := 0) dX5_dust_66 rfl rfl ?_
          refine tr_getR C (k := 12) (ci := 5) rfl rfl rfl inT5 rfl (by decide) w960 dX5_dust_67 ?_
          refine tr_aload_n C (i := 0) dX5_dust_70 rfl rfl ?_
          refine tr_getI C (k := 13) (ci := 5) rfl rfl rfl inT5 rfl (by decide) w961 dX5_dust_71 ?_
          refine tr_iload_n C (i := 3) dX5_dust_74 rfl rfl ?_
          refine tr_iast C (n := 8) (σ' := wr σw5 7 (σw5.1 0 13) a3) rfl dX5_dust_75 rfl (fun h8 => ?_)
          refine tr_stp (fun σw6 eσw6 => ?_)
          refine tr_aload_n C (i := 0) dX5_dust_76 rfl rfl ?_
          refine tr_dup C dX5_dust_77 rfl ?_
          refine tr_getI C (k := 13) (ci := 5) rfl rfl rfl inT5 rfl (by decide) w961 dX5_dust_78 ?_
          refine tr_iconst C (v := 1) dX5_dust_81 (by decide) ?_
          refine tr_iadd C dX5_dust_82 ?_
          refine tr_putI C (k := 13) (ci := 5) (σ' := putI σw6 0 13 ((σw6.1 0 13) + 1)) rfl rfl rfl inT5 rfl (by decide) tyX5 tyX5_ok nmX5 rfl rfl w961 dX5_dust_83 rfl ?_
          refine tr_stp (fun σw7 eσw7 => ?_)
          refine tr_aload_n C (i := 0) dX5_dust_86 rfl rfl ?_
          refine tr_getI C (k := 13) (ci := 5) rfl rfl rfl inT5 rfl (by decide) w961 dX5_dust_87 ?_
          refine tr_iconst C (v := 1) dX5_dust_90 (by decide) ?_
          refine tr_isub C dX5_dust_91 ?_
          exact tr_iret C hr hlk dX5_dust_92
def fX5_feed (a1 : Int32) (σ : Mem) : Option (Int32 × Mem) :=
  bn1 (fX5_in a1.toInt64 0 255 σ) fun r1 => (
    if r1 = 0 then (
      some (-2, σ)
    ) else (
      if (σ.1 0 6) = 160 then (
        some (-4, σ)
      ) else (
        gd (inB (σ.1 0 6) 160) (stp (wr σ 3 (σ.1 0 6) a1) fun σw2 => (
          stp (putI σw2 0 6 ((σw2.1 0 6) + 1)) fun σw3 => (
            some (σw3.1 0 6, σw3)
          )
        ))
      )
    )
  )
set_option maxHeartbeats 4000000 in
set_option maxRecDepth 100000 in
theorem kX5_feed (l : Launch) (g : GG) (cs : CS) (ad : Nat → Nat) (a1 : Int32) (σ : Mem) : CtI l g cs ad (shM g) mX5_feed (.code mX5_feed cX5_feed 2 (some .int)) { frames := 1, cells := 0, slots := 0, locals := 25 } [.ref (ad 0), .int a1] σ (fX5_feed a1 σ) := by
  refine ctI_intro (own := "KinInTheHeapModel") (by decide +kernel) rfl [some (.ref (ad 0)), some (.int a1)] (Nat.le_of_ble_eq_true rfl) rfl ?_
  intro p e s m args below meth c A C hr hlk
  refine tr_iload_n C (i := 1) dX5_feed_0 rfl rfl ?_
  refine tr_i2l C dX5_feed_1 ?_
  refine tr_lconst C (v := 0) dX5_feed_2 (by decide) ?_
  refine tr_ldc2 C (v := 255) w1223 dX5_feed_3 ?_
  refine tr_cSIP C (av := [.long a1.toInt64, .long 0, .long 255]) (st := []) (kX5_in l g cs ad a1.toInt64 0 255 σ) mwX5_in w1084 ⟨rfl, rfl⟩ ⟨(Nat.le_of_ble_eq_true rfl), (Nat.le_of_ble_eq_true rfl)⟩ rfl rfl (Nat.le_of_ble_eq_true rfl) dX5_feed_6 (fun r1 hr1 => ?_)
  refine tr_if_ne C (tgt := 15) dX5_feed_9 (by decide) (fun q6 => ?_) (fun q6 => ?_)
  · refine tr_bipush C (v := -2) dX5_feed_12 (by decide) ?_
    exact tr_iret C hr hlk dX5_feed_14
  · refine tr_aload_n C (i := 0) dX5_feed_15 rfl rfl ?_
    refine tr_getI C (k := 6) (ci := 5) rfl rfl rfl inT5 rfl (by decide) w954 dX5_feed_16 ?_
    refine tr_sipush C (v := 160) dX5_feed_19 (by decide) ?_
    refine tr_icmp_ne C (tgt := 28) dX5_feed_22 (by decide) (fun q5 => ?_) (fun q5 => ?_)
    · refine tr_bipush C (v := -4) dX5_feed_25 (by decide) ?_
      exact tr_iret C hr hlk dX5_feed_27
    · refine tr_aload_n C (i := 0) dX5_feed_28 rfl rfl ?_
      refine tr_getR C (k := 5) (ci := 5) rfl rfl rfl inT5 rfl (by decide) w953 dX5_feed_29 ?_
      refine tr_aload_n C (i := 0) dX5_feed_32 rfl rfl ?_
      refine tr_getI C (k := 6) (ci := 5) rfl rfl rfl inT5 rfl (by decide) w954 dX5_feed_33 ?_
      refine tr_iload_n C (i := 1) dX5_feed_36 rfl rfl ?_
      refine tr_iast C (n := 160) (σ' := wr σ 3 (σ.1 0 6) a1) rfl dX5_feed_37 rfl (fun h4 => ?_)
      refine tr_stp (fun σw2 eσw2 => ?_)
      refine tr_aload_n C (i := 0) dX5_feed_38 rfl rfl ?_
      refine tr_dup C dX5_feed_39 rfl ?_
      refine tr_getI C (k := 6) (ci := 5) rfl rfl rfl inT5 rfl (by decide) w954 dX5_feed_40 ?_
      refine tr_iconst C (v := 1) dX5_feed_43 (by decide) ?_
      refine tr_iadd C dX5_feed_44 ?_
      refine tr_putI C (k := 6) (ci := 5) (σ' := putI σw2 0 6 ((σw2.1 0 6) + 1)) rfl rfl rfl inT5 rfl (by decide) tyX5 tyX5_ok nmX5 rfl rfl w954 dX5_feed_45 rfl ?_
      refine tr_stp (fun σw3 eσw3 => ?_)
      refine tr_aload_n C (i := 0) dX5_feed_48 rfl rfl ?_
      refine tr_getI C (k := 6) (ci := 5) rfl rfl rfl inT5 rfl (by decide) w954 dX5_feed_49 ?_
      exact tr_iret C hr hlk dX5_feed_52
def fX5_text_b49 (σ49 : Mem) : Option (Int32 × Mem) :=
  gd (inB (σ49.1 0 3) 6) (stp (wr σ49 2 (σ49.1 0 3) (σ49.1 0 6)) fun σw1 => (
    stp (putI σw1 0 6 0) fun σw2 => (
      bnd (fX5_read (σw2.1 0 3) 0 σw2) fun r3 σ3 => (
        if (σ3.1 0 27) = 0 then (
          stp (putI σ3 0 3 ((σ3.1 0 3) + 1)) fun σw4 => (
            some ((σw4.1 0 3) - 1, σw4)
          )
        ) else (
          some ((-100) - (σ3.1 0 28), σ3)
        )
      )
    )
  ))
def fX5_text_L14 (ih14 : Mem × Int32 → Option (Int32 × Mem)) : Mem × Int32 → Option (Int32 × Mem) := fun v => match v with
  | (σ14, y1_14) =>
    if (σ14.1 0 6) ≤ y1_14 then (
      fX5_text_b49 σ14
    ) else (
      gd (inB y1_14 160) (
        gd (inB ((160 * (σ14.1 0 3)) + y1_14) 960) (stp (wr σ14 1 ((160 * (σ14.1 0 3)) + y1_14) (rd σ14 3 y1_14)) fun σw7 => (
          ih14 (σw7, y1_14 + 1)
        ))
      )
    )
def fX5_text (σ : Mem) : Option (Int32 × Mem) :=
  if (σ.1 0 3) = 6 then (
    some (-4, σ)
  ) else (
    loopN (fX5_text_L14) 1000 (σ, 0)
  )
set_option maxHeartbeats 4000000 in
set_option maxRecDepth 100000 in
theorem kX5_text (l : Launch) (g : GG) (cs : CS) (ad : Nat → Nat) (σ : Mem) : CtI l g cs ad (shM g) mX5_text (.code mX5_text cX5_text 2 (some .int)) { frames := 75, cells := 0, slots := 0, locals := 2829 } [.ref (ad 0)] σ (fX5_text σ) := by
  refine ctI_intro (own := "KinInTheHeapModel") (by decide +kernel) rfl [some (.ref (ad 0)), none] (Nat.le_of_ble_eq_true rfl) rfl ?_
  intro p e s m args below meth c A C hr hlk
  refine tr_aload_n C (i := 0) dX5_text_0 rfl rfl ?_
  refine tr_getI C (k := 3) (ci := 5) rfl rfl rfl inT5 rfl (by decide) w951 dX5_text_1 ?_
  refine tr_bipush C (v := 6) dX5_text_4 (by decide) ?_
  refine tr_icmp_ne C (tgt := 12) dX5_text_6 (by decide) (fun q11 => ?_) (fun q11 => ?_)
  · refine tr_bipush C (v := -4) dX5_text_9 (by decide) ?_
    exact tr_iret C hr hlk dX5_text_11
  · refine tr_iconst C (v := 0) dX5_text_12 (by decide) ?_
    refine tr_istore_n C (i := 1) (lv' := [some (.ref (ad 0)), some (.int 0)]) dX5_text_13 rfl (by decide) rfl ?_
    refine tr_loop (b := fX5_text_L14) (sg := fun v => v.1) (lw := fun v => [some (.ref (ad 0)), some (.int v.2)]) (sw := fun v => []) (fun ih14 IH14 v => ?_) 1000 (σ, 0)
    obtain ⟨σ14, y1_14⟩ := v
    refine tr_st (σ' := σ14) (lv' := [some (.ref (ad 0)), some (.int y1_14)]) (st' := []) rfl rfl rfl ?_
    refine tr_iload_n C (i := 1) dX5_text_14 rfl rfl ?_
    refine tr_aload_n C (i := 0) dX5_text_15 rfl rfl ?_
    refine tr_getI C (k := 6) (ci := 5) rfl rfl rfl inT5 rfl (by decide) w954 dX5_text_16 ?_
    have B49 : ∀ (σ49 : Mem), Tr p l e { frames := 75, cells := 0, slots := 0, locals := 2829 } s m args below meth c g ad (shM g) A 2 (QI g ad (shM g) A below args s) (fX5_text_b49 σ49) σ49 49 [some (.ref (ad 0)), none] [] := by
      intro σ49
      refine tr_aload_n C (i := 0) dX5_text_49 rfl rfl ?_
      refine tr_getR C (k := 2) (ci := 5) rfl rfl rfl inT5 rfl (by decide) w950 dX5_text_50 ?_
      refine tr_aload_n C (i := 0) dX5_text_53 rfl rfl ?_
      refine tr_getI C (k := 3) (ci := 5) rfl rfl rfl inT5 rfl (by decide) w951 dX5_text_54 ?_
      refine tr_aload_n C (i := 0) dX5_text_57 rfl rfl ?_
      refine tr_getI C (k := 6) (ci := 5) rfl rfl rfl inT5 rfl (by decide) w954 dX5_text_58 ?_
      refine tr_iast C (n := 6) (σ' := wr σ49 2 (σ49.1 0 3) (σ49.1 0 6)) rfl dX5_text_61 rfl (fun h6 => ?_)
      refine tr_stp (fun σw1 eσw1 => ?_)
      refine tr_aload_n C (i := 0) dX5_text_62 rfl rfl ?_
      refine tr_iconst C (v := 0) dX5_text_63 (by decide) ?_
      refine tr_putI C (k := 6) (ci := 5) (σ' := putI σw1 0 6 0) rfl rfl rfl inT5 rfl (by decide) tyX5 tyX5_ok nmX5 rfl rfl w954 dX5_text_64 rfl ?_
      refine tr_stp (fun σw2 eσw2 => ?_)
      refine tr_aload_n C (i := 0) dX5_text_67 rfl rfl ?_
      refine tr_aload_n C (i := 0) dX5_text_68 rfl rfl ?_
      refine tr_getI C (k := 3) (ci := 5) rfl rfl rfl inT5 rfl (by decide) w951 dX5_text_69 ?_
      refine tr_iconst C (v := 0) dX5_text_72 (by decide) ?_
      refine tr_cVI C (av := [.int (σw2.1 0 3), .int 0]) (st := []) (kX5_read l g cs ad (σw2.1 0 3) 0 σw2) mwX5_read w1127 rfl rfl ⟨rfl, rfl⟩ ⟨(Nat.le_of_ble_eq_true rfl), (Nat.le_of_ble_eq_true rfl)⟩ rfl rfl (Nat.le_of_ble_eq_true rfl) dX5_text_73 (fun r3 σ3 hr3 => ?_)
      refine tr_istore_n C (i := 1) (lv' := [some (.ref (ad 0)), some (.int r3)]) dX5_text_76 rfl (by decide) rfl ?_
      refine tr_aload_n C (i := 0) dX5_text_77 rfl rfl ?_
      refine tr_getI C (k := 27) (ci := 5) rfl rfl rfl inT5 rfl (by decide) w975 dX5_text_78 ?_
      refine tr_if_eq C (tgt := 92) dX5_text_81 (by decide) (fun q5 => ?_) (fun q5 => ?_)
      · refine tr_aload_n C (i := 0) dX5_text_92 rfl rfl ?_
        refine tr_dup C dX5_text_93 rfl ?_
        refine tr_getI C (k := 3) (ci := 5) rfl rfl rfl inT5 rfl (by decide) w951 dX5_text_94 ?_
        refine tr_iconst C (v := 1) dX5_text_97 (by decide) ?_
        refine tr_iadd C dX5_text_98 ?_
        refine tr_putI C (k := 3) (ci := 5) (σ' := putI σ3 0 3 ((σ3.1 0 3) + 1)) rfl rfl rfl inT5 rfl (by decide) tyX5 tyX5_ok nmX5 rfl rfl w951 dX5_text_99 rfl ?_
        refine tr_stp (fun σw4 eσw4 => ?_)
        refine tr_aload_n C (i := 0) dX5_text_102 rfl rfl ?_
        refine tr_getI C (k := 3) (ci := 5) rfl rfl rfl inT5 rfl (by decide) w951 dX5_text_103 ?_
        refine tr_iconst C (v := 1) dX5_text_106 (by decide) ?_
        refine tr_isub C dX5_text_107 ?_
        exact tr_iret C hr hlk dX5_text_108
      · refine tr_bipush C (v := -100) dX5_text_84 (by decide) ?_
        refine tr_aload_n C (i := 0) dX5_text_86 rfl rfl ?_
        refine tr_getI C (k := 28) (ci := 5) rfl rfl rfl inT5 rfl (by decide) w976 dX5_text_87 ?_
        refine tr_isub C dX5_text_90 ?_
        exact tr_iret C hr hlk dX5_text_91
    refine tr_icmp_ge C (tgt := 49) dX5_text_19 (by decide) (fun q10 => ?_) (fun q10 => ?_)
    · refine tr_mask [true, false] rfl ?_
      exact B49 σ14
    · refine tr_aload_n C (i := 0) dX5_text_22 rfl rfl ?_
      refine tr_getR C (k := 1) (ci := 5) rfl rfl rfl inT5 rfl (by decide) w949 dX5_text_23 ?_
      refine tr_sipush C (v := 160) dX5_text_26 (by decide) ?_
      refine tr_aload_n C (i := 0) dX5_text_29 rfl rfl ?_
      refine tr_getI C (k := 3) (ci := 5) rfl rfl rfl inT5 rfl (by decide) w951 dX5_text_30 ?_
      refine tr_imul C dX5_text_33 ?_
      refine tr_iload_n C (i := 1) dX5_text_34 rfl rfl ?_
      refine tr_iadd C dX5_text_35 ?_
      refine tr_aload_n C (i := 0) dX5_text_36 rfl rfl ?_
      refine tr_getR C (k := 5) (ci := 5) rfl rfl rfl inT5 rfl (by decide) w953 dX5_text_37 ?_
      refine tr_iload_n C (i := 1) dX5_text_40 rfl rfl ?_
      refine tr_iald C (n := 160) rfl dX5_text_41 (fun h9 => ?_)
      refine tr_iast C (n := 960) (σ' := wr σ14 1 ((160 * (σ14.1 0 3)) + y1_14) (rd σ14 3 y1_14)) rfl dX5_text_42 rfl (fun h8 => ?_)
      refine tr_stp (fun σw7 eσw7 => ?_)
      refine tr_iinc C (i := 1) (d := 1) (lv' := [some (.ref (ad 0)), some (.int (y1_14 + 1))]) dX5_text_43 rfl (by decide) (by decide) rfl ?_
      refine tr_goto C (tgt := 14) dX5_text_46 (by decide) ?_
      exact IH14 (σw7, y1_14 + 1)
def fX5_force (a1 : Int32) (σ : Mem) : Option (Int32 × Mem) :=
  bn1 (fX5_in a1.toInt64 0 (((σ.1 0 3) - 1).toInt64) σ) fun r1 => (
    if r1 = 0 then (
      some (-2, σ)
    ) else (
      stp (putI σ 0 4 a1) fun σw2 => (
        some (σ.1 0 4, σw2)
      )
    )
  )
set_option maxHeartbeats 4000000 in
set_option maxRecDepth 100000 in
theorem kX5_force (l : Launch) (g : GG) (cs : CS) (ad : Nat → Nat) (a1 : Int32) (σ : Mem) : CtI l g cs ad (shM g) mX5_force (.code mX5_force cX5_force 3 (some .int)) { frames := 1, cells := 0, slots := 0, locals := 25 } [.ref (ad 0), .int a1] σ (fX5_force a1 σ) := by
  refine ctI_intro (own := "KinInTheHeapModel") (by decide +kernel) rfl [some (.ref (ad 0)), some (.int a1), none] (Nat.le_of_ble_eq_true rfl) rfl ?_
  intro p e s m args below meth c A C hr hlk
  refine tr_iload_n C (i := 1) dX5_force_0 rfl rfl ?_
  refine tr_i2l C dX5_force_1 ?_
  refine tr_lconst C (v := 0) dX5_force_2 (by decide) ?_
  refine tr_aload_n C (i := 0) dX5_force_3 rfl rfl ?_
  refine tr_getI C (k := 3) (ci := 5) rfl rfl rfl inT5 rfl (by decide) w951 dX5_force_4 ?_
  refine tr_iconst C (v := 1) dX5_force_7 (by decide) ?_
  refine tr_isub C dX5_force_8 ?_
  refine tr_i2l C dX5_force_9 ?_
  refine tr_cSIP C (av := [.long a1.toInt64, .long 0, .long (((σ.1 0 3) - 1).toInt64)]) (st := []) (kX5_in l g cs ad a1.toInt64 0 (((σ.1 0 3) - 1).toInt64) σ) mwX5_in w1084 ⟨rfl, rfl⟩ ⟨(Nat.le_of_ble_eq_true rfl), (Nat.le_of_ble_eq_true rfl)⟩ rfl rfl (Nat.le_of_ble_eq_true rfl) dX5_force_10 (fun r1 hr1 => ?_)
  refine tr_if_ne C (tgt := 19) dX5_force_13 (by decide) (fun q3 => ?_) (fun q3 => ?_)
  · refine tr_bipush C (v := -2) dX5_force_16 (by decide) ?_
    exact tr_iret C hr hlk dX5_force_18
  · refine tr_aload_n C (i := 0) dX5_force_19 rfl rfl ?_
    refine tr_getI C (k := 4) (ci := 5) rfl rfl rfl inT5 rfl (by decide) w952 dX5_force_20 ?_
    refine tr_istore_n C (i := 2) (lv' := [some (.ref (ad 0)), some (.int a1), some (.int (σ.1 0 4))]) dX5_force_23 rfl (by decide) rfl ?_
    refine tr_aload_n C (i := 0) dX5_force_24 rfl rfl ?_
    refine tr_iload_n C (i := 1) dX5_force_25 rfl rfl ?_
    refine tr_putI C (k := 4) (ci := 5) (σ' := putI σ 0 4 a1) rfl rfl rfl inT5 rfl (by decide) tyX5 tyX5_ok nmX5 rfl rfl w952 dX5_force_26 rfl ?_
    refine tr_stp (fun σw2 eσw2 => ?_)
    refine tr_iload_n C (i := 2) dX5_force_29 rfl rfl ?_
    exact tr_iret C hr hlk dX5_force_30
def fX5_beside_b48 (a1 : Int32) (a2 : Int32) (σ : Mem) (y2_48 : Int32) (z0_48 : Int32) (z1_48 : Int32) : Option (Int32) :=
  bn1 (fX5_in y2_48.toInt64 0 5 σ) fun r1 => (
    if r1 = 0 then (
      some (-1)
    ) else (
      bn1 (fX5_in ((z1_48 + z0_48).toInt64) 0 5 σ) fun r2 => (
        if r2 = 0 then (
          some (-1)
        ) else (
          some ((6 * (z1_48 + z0_48)) + y2_48)
        )
      )
    )
  )
def fX5_beside_b23 (a1 : Int32) (a2 : Int32) (σ : Mem) (z0_23 : Int32) (z1_23 : Int32) : Option (Int32) :=
  if a2 = 3 then (
    fX5_beside_b48 a1 a2 σ (z1_23 + z0_23) 1 (a1 / 6)
  ) else (
    if a2 = 4 then (
      fX5_beside_b48 a1 a2 σ (z1_23 + z0_23) (-1) (a1 / 6)
    ) else (
      fX5_beside_b48 a1 a2 σ (z1_23 + z0_23) 0 (a1 / 6)
    )
  )
def fX5_beside (a1 : Int32) (a2 : Int32) (σ : Mem) : Option (Int32) :=
  if a2 = 1 then (
    fX5_beside_b23 a1 a2 σ 1 (a1 - a1 / 6 * 6)
  ) else (
    if a2 = 2 then (
      fX5_beside_b23 a1 a2 σ (-1) (a1 - a1 / 6 * 6)
    ) else (
      fX5_beside_b23 a1 a2 σ 0 (a1 - a1 / 6 * 6)
    )
  )
set_option maxHeartbeats 4000000 in
set_option maxRecDepth 100000 in
theorem kX5_beside (l : Launch) (g : GG) (cs : CS) (ad : Nat → Nat) (a1 : Int32) (a2 : Int32) (σ : Mem) : CtI l g cs ad (shM g) mX5_beside (.code mX5_beside cX5_beside 4 (some .int)) { frames := 1, cells := 0, slots := 0, locals := 25 } [.int a1, .int a2] σ (pur (fX5_beside a1 a2 σ) σ) := by
  refine ctIP_intro (own := "KinInTheHeapModel") (by decide +kernel) rfl [some (.int a1), some (.int a2), none, none] (Nat.le_of_ble_eq_true rfl) rfl ?_
  intro p e s m args below meth c A C hr hlk
  refine tr_iload_n C (i := 0) dX5_beside_0 rfl rfl ?_
  refine tr_bipush C (v := 6) dX5_beside_1 (by decide) ?_
  refine tr_iremK C dX5_beside_3 (by decide) ?_
  refine tr_iload_n C (i := 1) dX5_beside_4 rfl rfl ?_
  refine tr_iconst C (v := 1) dX5_beside_5 (by decide) ?_
  have B23 : ∀ (z0_23 : Int32) (z1_23 : Int32), Tr p l e { frames := 1, cells := 0, slots := 0, locals := 25 } s m args below meth c g ad (shM g) A 4 (QP g ad (shM g) A below args s σ) (fX5_beside_b23 a1 a2 σ z0_23 z1_23) σ 23 [some (.int a1), some (.int a2), none, none] [.int z0_23, .int z1_23] := by
    intro z0_23 z1_23
    refine tr_iadd C dX5_beside_23 ?_
    refine tr_istore_n C (i := 2) (lv' := [some (.int a1), some (.int a2), some (.int (z1_23 + z0_23)), none]) dX5_beside_24 rfl (by decide) rfl ?_
    refine tr_iload_n C (i := 0) dX5_beside_25 rfl rfl ?_
    refine tr_bipush C (v := 6) dX5_beside_26 (by decide) ?_
    refine tr_idivK C dX5_beside_28 (by decide) ?_
    refine tr_iload_n C (i := 1) dX5_beside_29 rfl rfl ?_
    refine tr_iconst C (v := 3) dX5_beside_30 (by decide) ?_
    have B48 : ∀ (y2_48 : Int32) (z0_48 : Int32) (z1_48 : Int32), Tr p l e { frames := 1, cells := 0, slots := 0, locals := 25 } s m args below meth c g ad (shM g) A 4 (QP g ad (shM g) A below args s σ) (fX5_beside_b48 a1 a2 σ y2_48 z0_48 z1_48) σ 48 [none, none, some (.int y2_48), none] [.int z0_48, .int z1_48] := by
      intro y2_48 z0_48 z1_48
      refine tr_iadd C dX5_beside_48 ?_
      refine tr_istore_n C (i := 3) (lv' := [none, none, some (.int y2_48), some (.int (z1_48 + z0_48))]) dX5_beside_49 rfl (by decide) rfl ?_
      refine tr_iload_n C (i := 2) dX5_beside_50 rfl rfl ?_
      refine tr_i2l C dX5_beside_51 ?_
      refine tr_lconst C (v := 0) dX5_beside_52 (by decide) ?_
      refine tr_ldc2 C (v := 5) w1216 dX5_beside_53 ?_
      refine tr_cSIP C (av := [.long y2_48.toInt64, .long 0, .long 5]) (st := []) (kX5_in l g cs ad y2_48.toInt64 0 5 σ) mwX5_in w1084 ⟨rfl, rfl⟩ ⟨(Nat.le_of_ble_eq_true rfl), (Nat.le_of_ble_eq_true rfl)⟩ rfl rfl (Nat.le_of_ble_eq_true rfl) dX5_beside_56 (fun r1 hr1 => ?_)
      refine tr_if_eq C (tgt := 83) dX5_beside_59 (by decide) (fun q4 => ?_) (fun q4 => ?_)
      · refine tr_iconst C (v := -1) dX5_beside_83 (by decide) ?_
        exact tr_iretP C hr hlk dX5_beside_84
      · refine tr_iload_n C (i := 3) dX5_beside_62 rfl rfl ?_
        refine tr_i2l C dX5_beside_63 ?_
        refine tr_lconst C (v := 0) dX5_beside_64 (by decide) ?_
        refine tr_ldc2 C (v := 5) w1216 dX5_beside_65 ?_
        refine tr_cSIP C (av := [.long ((z1_48 + z0_48).toInt64), .long 0, .long 5]) (st := []) (kX5_in l g cs ad ((z1_48 + z0_48).toInt64) 0 5 σ) mwX5_in w1084 ⟨rfl, rfl⟩ ⟨(Nat.le_of_ble_eq_true rfl), (Nat.le_of_ble_eq_true rfl)⟩ rfl rfl (Nat.le_of_ble_eq_true rfl) dX5_beside_68 (fun r2 hr2 => ?_)
        refine tr_if_eq C (tgt := 83) dX5_beside_71 (by decide) (fun q3 => ?_) (fun q3 => ?_)
        · refine tr_iconst C (v := -1) dX5_beside_83 (by decide) ?_
          exact tr_iretP C hr hlk dX5_beside_84
        · refine tr_bipush C (v := 6) dX5_beside_74 (by decide) ?_
          refine tr_iload_n C (i := 3) dX5_beside_76 rfl rfl ?_
          refine tr_imul C dX5_beside_77 ?_
          refine tr_iload_n C (i := 2) dX5_beside_78 rfl rfl ?_
          refine tr_iadd C dX5_beside_79 ?_
          refine tr_goto C (tgt := 84) dX5_beside_80 (by decide) ?_
          exact tr_iretP C hr hlk dX5_beside_84
    refine tr_icmp_ne C (tgt := 38) dX5_beside_31 (by decide) (fun q6 => ?_) (fun q6 => ?_)
    · refine tr_iconst C (v := 1) dX5_beside_34 (by decide) ?_
      refine tr_goto C (tgt := 48) dX5_beside_35 (by decide) ?_
      refine tr_mask [false, false, true, false] rfl ?_
      exact B48 (z1_23 + z0_23) 1 (a1 / 6)
    · refine tr_iload_n C (i := 1) dX5_beside_38 rfl rfl ?_
      refine tr_iconst C (v := 4) dX5_beside_39 (by decide) ?_
      refine tr_icmp_ne C (tgt := 47) dX5_beside_40 (by decide) (fun q5 => ?_) (fun q5 => ?_)
      · refine tr_iconst C (v := -1) dX5_beside_43 (by decide) ?_
        refine tr_goto C (tgt := 48) dX5_beside_44 (by decide) ?_
        refine tr_mask [false, false, true, false] rfl ?_
        exact B48 (z1_23 + z0_23) (-1) (a1 / 6)
      · refine tr_iconst C (v := 0) dX5_beside_47 (by decide) ?_
        refine tr_mask [false, false, true, false] rfl ?_
        exact B48 (z1_23 + z0_23) 0 (a1 / 6)
  refine tr_icmp_ne C (tgt := 13) dX5_beside_6 (by decide) (fun q8 => ?_) (fun q8 => ?_)
  · refine tr_iconst C (v := 1) dX5_beside_9 (by decide) ?_
    refine tr_goto C (tgt := 23) dX5_beside_10 (by decide) ?_
    exact B23 1 (a1 - a1 / 6 * 6)
  · refine tr_iload_n C (i := 1) dX5_beside_13 rfl rfl ?_
    refine tr_iconst C (v := 2) dX5_beside_14 (by decide) ?_
    refine tr_icmp_ne C (tgt := 22) dX5_beside_15 (by decide) (fun q7 => ?_) (fun q7 => ?_)
    · refine tr_iconst C (v := -1) dX5_beside_18 (by decide) ?_
      refine tr_goto C (tgt := 23) dX5_beside_19 (by decide) ?_
      exact B23 (-1) (a1 - a1 / 6 * 6)
    · refine tr_iconst C (v := 0) dX5_beside_22 (by decide) ?_
      exact B23 0 (a1 - a1 / 6 * 6)
def fX5_isMovable (a1 : Int32) (σ : Mem) : Option (Int32 × Mem) :=
  gd (inB a1 8) (
    if (rd σ 7 a1) = (-1) then (
      some (0, σ)
    ) else (
      gd (inB a1 8) (
        gd (inB (rd σ 7 a1) 36) (
          if (rd σ 4 (rd σ 7 a1)) = 0 then (
            some (1, σ)
          ) else (
            bnd (fX5_isLoose a1 σ) fun r1 σ1 => (
              if r1 = 0 then (
                some (0, σ1)
              ) else (
                some (1, σ1)
              )
            )
          )
        )
      )
    )
  )
set_option maxHeartbeats 4000000 in
set_option maxRecDepth 100000 in
theorem kX5_isMovable (l : Launch) (g : GG) (cs : CS) (ad : Nat → Nat) (a1 : Int32) (σ : Mem) : CtI l g cs ad (shM g) mX5_isMovable (.code mX5_isMovable cX5_isMovable 2 (some .boolean)) { frames := 77, cells := 0, slots := 0, locals := 2874 } [.ref (ad 0), .int a1] σ (fX5_isMovable a1 σ) := by
  refine ctI_intro (own := "KinInTheHeapModel") (by decide +kernel) rfl [some (.ref (ad 0)), some (.int a1)] (Nat.le_of_ble_eq_true rfl) rfl ?_
  intro p e s m args below meth c A C hr hlk
  refine tr_aload_n C (i := 0) dX5_isMovable_0 rfl rfl ?_
  refine tr_getR C (k := 12) (ci := 5) rfl rfl rfl inT5 rfl (by decide) w960 dX5_isMovable_1 ?_
  refine tr_iload_n C (i := 1) dX5_isMovable_4 rfl rfl ?_
  refine tr_iald C (n := 8) rfl dX5_isMovable_5 (fun h7 => ?_)
  refine tr_iconst C (v := -1) dX5_isMovable_6 (by decide) ?_
  refine tr_icmp_eq C (tgt := 36) dX5_isMovable_7 (by decide) (fun q6 => ?_) (fun q6 => ?_)
  · refine tr_iconst C (v := 0) dX5_isMovable_36 (by decide) ?_
    exact tr_zret C hr hlk rfl dX5_isMovable_37
  · refine tr_aload_n C (i := 0) dX5_isMovable_10 rfl rfl ?_
    refine tr_getR C (k := 9) (ci := 5) rfl rfl rfl inT5 rfl (by decide) w957 dX5_isMovable_11 ?_
    refine tr_aload_n C (i := 0) dX5_isMovable_14 rfl rfl ?_
    refine tr_getR C (k := 12) (ci := 5) rfl rfl rfl inT5 rfl (by decide) w960 dX5_isMovable_15 ?_
    refine tr_iload_n C (i := 1) dX5_isMovable_18 rfl rfl ?_
    refine tr_iald C (n := 8) rfl dX5_isMovable_19 (fun h5 => ?_)
    refine tr_iald C (n := 36) rfl dX5_isMovable_20 (fun h4 => ?_)
    refine tr_if_eq C (tgt := 32) dX5_isMovable_21 (by decide) (fun q3 => ?_) (fun q3 => ?_)
    · refine tr_iconst C (v := 1) dX5_isMovable_32 (by decide) ?_
      refine tr_goto C (tgt := 37) dX5_isMovable_33 (by decide) ?_
      exact tr_zret C hr hlk rfl dX5_isMovable_37
    · refine tr_aload_n C (i := 0) dX5_isMovable_24 rfl rfl ?_
      refine tr_iload_n C (i := 1) dX5_isMovable_25 rfl rfl ?_
      refine tr_cVI C (av := [.int a1]) (st := []) (kX5_isLoose l g cs ad a1 σ) mwX5_isLoose w1200 rfl rfl ⟨rfl, rfl⟩ ⟨(Nat.le_of_ble_eq_true rfl), (Nat.le_of_ble_eq_true rfl)⟩ rfl rfl (Nat.le_of_ble_eq_true rfl) dX5_isMovable_26 (fun r1 σ1 hr1 => ?_)
      refine tr_if_eq C (tgt := 36) dX5_isMovable_29 (by decide) (fun q2 => ?_) (fun q2 => ?_)
      · refine tr_iconst C (v := 0) dX5_isMovable_36 (by decide) ?_
        exact tr_zret C hr hlk rfl dX5_isMovable_37
      · refine tr_iconst C (v := 1) dX5_isMovable_32 (by decide) ?_
        refine tr_goto C (tgt := 37) dX5_isMovable_33 (by decide) ?_
        exact tr_zret C hr hlk rfl dX5_isMovable_37
def fX5_swept_L11 (a1 : Int32) (a2 : Int32) (a3 : Int32) (σ : Mem) (ih11 : Int32 × Int32 → Option (Int32)) : Int32 × Int32 → Option (Int32) := fun v => match v with
  | (y4_11, y5_11) =>
    if a3 ≤ y5_11 then (
      some y4_11
    ) else (
      bn1 (fX5_beside y4_11 a2 σ) fun r1 => (
        if r1 = (-1) then (
          some r1
        ) else (
          gd (inB r1 36) (
            if (rd σ 4 r1) = 1 then (
              some r1
            ) else (
              ih11 (r1, y5_11 + 1)
            )
          )
        )
      )
    )
def fX5_swept (a1 : Int32) (a2 : Int32) (a3 : Int32) (σ : Mem) : Option (Int32) :=
  gd (inB a1 8) (
    loopN (fX5_swept_L11 a1 a2 a3 σ) 1000 (rd σ 7 a1, 0)
  )
set_option maxHeartbeats 4000000 in
set_option maxRecDepth 100000 in
theorem kX5_swept (l : Launch) (g : GG) (cs : CS) (ad : Nat → Nat) (a1 : Int32) (a2 : Int32) (a3 : Int32) (σ : Mem) : CtI l g cs ad (shM g) mX5_swept (.code mX5_swept cX5_swept 6 (some .int)) { frames := 2, cells := 0, slots := 0, locals := 48 } [.ref (ad 0), .int a1, .int a2, .int a3] σ (pur (fX5_swept a1 a2 a3 σ) σ) := by
  refine ctIP_intro (own := "KinInTheHeapModel") (by decide +kernel) rfl [some (.ref (ad 0)), some (.int a1), some (.int a2), some (.int a3), none, none] (Nat.le_of_ble_eq_true rfl) rfl ?_
  intro p e s m args below meth c A C hr hlk
  refine tr_aload_n C (i := 0) dX5_swept_0 rfl rfl ?_
  refine tr_getR C (k := 12) (ci := 5) rfl rfl rfl inT5 rfl (by decide) w960 dX5_swept_1 ?_
  refine tr_iload_n C (i := 1) dX5_swept_4 rfl rfl ?_
  refine tr_iald C (n := 8) rfl dX5_swept_5 (fun h6 => ?_)
  refine tr_istore C (i := 4) (lv' := [some (.ref (ad 0)), some (.int a1), some (.int a2), some (.int a3), some (.int (rd σ 7 a1)), none]) dX5_swept_6 (by decide) rfl ?_
  refine tr_iconst C (v := 0) dX5_swept_8 (by decide) ?_
  refine tr_istore C (i := 5) (lv' := [some (.ref (ad 0)), some (.int a1), some (.int a2), some (.int a3), some (.int (rd σ 7 a1)), some (.int 0)]) dX5_swept_9 (by decide) rfl ?_
  refine tr_mask [true, false, true, true, true, true] rfl ?_
  refine tr_loop (b := fX5_swept_L11 a1 a2 a3 σ) (sg := fun v => σ) (lw := fun v => [some (.ref (ad 0)), none, some (.int a2), some (.int a3), some (.int v.1), some (.int v.2)]) (sw := fun v => []) (fun ih11 IH11 v => ?_) 1000 (rd σ 7 a1, 0)
  obtain ⟨y4_11, y5_11⟩ := v
  refine tr_st (σ' := σ) (lv' := [some (.ref (ad 0)), none, some (.int a2), some (.int a3), some (.int y4_11), some (.int y5_11)]) (st' := []) rfl rfl rfl ?_
  refine tr_iload C (i := 5) dX5_swept_11 rfl ?_
  refine tr_iload_n C (i := 3) dX5_swept_13 rfl rfl ?_
  refine tr_icmp_ge C (tgt := 51) dX5_swept_14 (by decide) (fun q5 => ?_) (fun q5 => ?_)
  · refine tr_iload C (i := 4) dX5_swept_51 rfl ?_
    exact tr_iretP C hr hlk dX5_swept_53
  · refine tr_iload C (i := 4) dX5_swept_17 rfl ?_
    refine tr_iload_n C (i := 2) dX5_swept_19 rfl rfl ?_
    refine tr_cSIP C (av := [.int y4_11, .int a2]) (st := []) (kX5_beside l g cs ad y4_11 a2 σ) mwX5_beside w1252 ⟨rfl, rfl⟩ ⟨(Nat.le_of_ble_eq_true rfl), (Nat.le_of_ble_eq_true rfl)⟩ rfl rfl (Nat.le_of_ble_eq_true rfl) dX5_swept_20 (fun r1 hr1 => ?_)
    refine tr_istore C (i := 4) (lv' := [some (.ref (ad 0)), none, some (.int a2), some (.int a3), some (.int r1), some (.int y5_11)]) dX5_swept_23 (by decide) rfl ?_
    refine tr_iload C (i := 4) dX5_swept_25 rfl ?_
    refine tr_iconst C (v := -1) dX5_swept_27 (by decide) ?_
    refine tr_icmp_eq C (tgt := 42) dX5_swept_28 (by decide) (fun q4 => ?_) (fun q4 => ?_)
    · refine tr_iload C (i := 4) dX5_swept_42 rfl ?_
      exact tr_iretP C hr hlk dX5_swept_44
    · refine tr_aload_n C (i := 0) dX5_swept_31 rfl rfl ?_
      refine tr_getR C (k := 9) (ci := 5) rfl rfl rfl inT5 rfl (by decide) w957 dX5_swept_32 ?_
      refine tr_iload C (i := 4) dX5_swept_35 rfl ?_
      refine tr_iald C (n := 36) rfl dX5_swept_37 (fun h3 => ?_)
      refine tr_iconst C (v := 1) dX5_swept_38 (by decide) ?_
      refine tr_icmp_ne C (tgt := 45) dX5_swept_39 (by decide) (fun q2 => ?_) (fun q2 => ?_)
      · refine tr_iload C (i := 4) dX5_swept_42 rfl ?_
        exact tr_iretP C hr hlk dX5_swept_44
      · refine tr_iinc C (i := 5) (d := 1) (lv' := [some (.ref (ad 0)), none, some (.int a2), some (.int a3), some (.int r1), some (.int (y5_11 + 1))]) dX5_swept_45 rfl (by decide) (by decide) rfl ?_
        refine tr_goto C (tgt := 11) dX5_swept_48 (by decide) ?_
        exact IH11 (r1, y5_11 + 1)
def fX5_lays1_b38 (ih4 : Mem × Int32 × Int32 → Option (Int32 × Mem)) (σ38 : Mem) (y2_38 : Int32) (z0_38 : Int32) (z1_38 : Int32) : Option (Int32 × Mem) :=
  gd (inB y2_38 8) (
    gd (inB y2_38 8) (stp (wr σ38 7 y2_38 (rd σ38 8 y2_38)) fun σw1 => (
      ih4 (σw1, z1_38 + z0_38, y2_38 + 1)
    ))
  )
def fX5_lays1_b37 (ih4 : Mem × Int32 × Int32 → Option (Int32 × Mem)) (σ37 : Mem) (y2_37 : Int32) (z0_37 : Int32) : Option (Int32 × Mem) :=
  fX5_lays1_b38 ih4 σ37 y2_37 0 z0_37
def fX5_lays1_L4 (ih4 : Mem × Int32 × Int32 → Option (Int32 × Mem)) : Mem × Int32 × Int32 → Option (Int32 × Mem) := fun v => match v with
  | (σ4, y1_4, y2_4) =>
    if (σ4.1 0 13) ≤ y2_4 then (
      some (y1_4, σ4)
    ) else (
      gd (inB y2_4 8) (
        if (rd σ4 7 y2_4) = (-1) then (
          fX5_lays1_b37 ih4 σ4 y2_4 y1_4
        ) else (
          gd (inB y2_4 8) (
            if (rd σ4 8 y2_4) = (-1) then (
              fX5_lays1_b38 ih4 σ4 y2_4 1 y1_4
            ) else (
              fX5_lays1_b37 ih4 σ4 y2_4 y1_4
            )
          )
        )
      )
    )
def fX5_lays1 (σ : Mem) : Option (Int32 × Mem) :=
  loopN (fX5_lays1_L4) 1000 (σ, 0, 0)
set_option maxHeartbeats 4000000 in
set_option maxRecDepth 100000 in
theorem kX5_lays1 (l : Launch) (g : GG) (cs : CS) (ad : Nat → Nat) (σ : Mem) : CtI l g cs ad (shM g) mX5_lays1 (.code mX5_lays1 cX5_lays1 3 (some .int)) { frames := 0, cells := 0, slots := 0, locals := 0 } [.ref (ad 0)] σ (fX5_lays1 σ) := by
  refine ctI_intro (own := "KinInTheHeapModel") (by decide +kernel) rfl [some (.ref (ad 0)), none, none] (Nat.le_of_ble_eq_true rfl) rfl ?_
  intro p e s m args below meth c A C hr hlk
  refine tr_iconst C (v := 0) dX5_lays1_0 (by decide) ?_
  refine tr_istore_n C (i := 1) (lv' := [some (.ref (ad 0)), some (.int 0), none]) dX5_lays1_1 rfl (by decide) rfl ?_
  refine tr_iconst C (v := 0) dX5_lays1_2 (by decide) ?_
  refine tr_istore_n C (i := 2) (lv' := [some (.ref (ad 0)), some (.int 0), some (.int 0)]) dX5_lays1_3 rfl (by decide) rfl ?_
  refine tr_loop (b := fX5_lays1_L4) (sg := fun v => v.1) (lw := fun v => [some (.ref (ad 0)), some (.int v.2.1), some (.int v.2.2)]) (sw := fun v => []) (fun ih4 IH4 v => ?_) 1000 (σ, 0, 0)
  obtain ⟨σ4, y1_4, y2_4⟩ := v
  refine tr_st (σ' := σ4) (lv' := [some (.ref (ad 0)), some (.int y1_4), some (.int y2_4)]) (st' := []) rfl rfl rfl ?_
  refine tr_iload_n C (i := 2) dX5_lays1_4 rfl rfl ?_
  refine tr_aload_n C (i := 0) dX5_lays1_5 rfl rfl ?_
  refine tr_getI C (k := 13) (ci := 5) rfl rfl rfl inT5 rfl (by decide) w961 dX5_lays1_6 ?_
  refine tr_icmp_ge C (tgt := 58) dX5_lays1_9 (by decide) (fun q8 => ?_) (fun q8 => ?_)
  · refine tr_iload_n C (i := 1) dX5_lays1_58 rfl rfl ?_
    exact tr_iret C hr hlk dX5_lays1_59
  · refine tr_iload_n C (i := 1) dX5_lays1_12 rfl rfl ?_
    refine tr_aload_n C (i := 0) dX5_lays1_13 rfl rfl ?_
    refine tr_getR C (k := 12) (ci := 5) rfl rfl rfl inT5 rfl (by decide) w960 dX5_lays1_14 ?_
    refine tr_iload_n C (i := 2) dX5_lays1_17 rfl rfl ?_
    refine tr_iald C (n := 8) rfl dX5_lays1_18 (fun h7 => ?_)
    refine tr_iconst C (v := -1) dX5_lays1_19 (by decide) ?_
    have B38 : ∀ (σ38 : Mem) (y2_38 : Int32) (z0_38 : Int32) (z1_38 : Int32), Tr p l e { frames := 0, cells := 0, slots := 0, locals := 0 } s m args below meth c g ad (shM g) A 3 (QI g ad (shM g) A below args s) (fX5_lays1_b38 ih4 σ38 y2_38 z0_38 z1_38) σ38 38 [some (.ref (ad 0)), none, some (.int y2_38)] [.int z0_38, .int z1_38] := by
      intro σ38 y2_38 z0_38 z1_38
      refine tr_iadd C dX5_lays1_38 ?_
      refine tr_istore_n C (i := 1) (lv' := [some (.ref (ad 0)), some (.int (z1_38 + z0_38)), some (.int y2_38)]) dX5_lays1_39 rfl (by decide) rfl ?_
      refine tr_aload_n C (i := 0) dX5_lays1_40 rfl rfl ?_
      refine tr_getR C (k := 12) (ci := 5) rfl rfl rfl inT5 rfl (by decide) w960 dX5_lays1_41 ?_
      refine tr_iload_n C (i := 2) dX5_lays1_44 rfl rfl ?_
      refine tr_aload_n C (i := 0) dX5_lays1_45 rfl rfl ?_
      refine tr_getR C (k := 29) (ci := 5) rfl rfl rfl inT5 rfl (by decide) w977 dX5_lays1_46 ?_
      refine tr_iload_n C (i := 2) dX5_lays1_49 rfl rfl ?_
      refine tr_iald C (n := 8) rfl dX5_lays1_50 (fun h3 => ?_)
      refine tr_iast C (n := 8) (σ' := wr σ38 7 y2_38 (rd σ38 8 y2_38)) rfl dX5_lays1_51 rfl (fun h2 => ?_)
      refine tr_stp (fun σw1 eσw1 => ?_)
      refine tr_iinc C (i := 2) (d := 1) (lv' := [some (.ref (ad 0)), some (.int (z1_38 + z0_38)), some (.int (y2_38 + 1))]) dX5_lays1_52 rfl (by decide) (by decide) rfl ?_
      refine tr_goto C (tgt := 4) dX5_lays1_55 (by decide) ?_
      exact IH4 (σw1, z1_38 + z0_38, y2_38 + 1)
    have B37 : ∀ (σ37 : Mem) (y2_37 : Int32) (z0_37 : Int32), Tr p l e { frames := 0, cells := 0, slots := 0, locals := 0 } s m args below meth c g ad (shM g) A 3 (QI g ad (shM g) A below args s) (fX5_lays1_b37 ih4 σ37 y2_37 z0_37) σ37 37 [some (.ref (ad 0)), none, some (.int y2_37)] [.int z0_37] := by
      intro σ37 y2_37 z0_37
      refine tr_iconst C (v := 0) dX5_lays1_37 (by decide) ?_
      exact B38 σ37 y2_37 0 z0_37
    refine tr_icmp_eq C (tgt := 37) dX5_lays1_20 (by decide) (fun q6 => ?_) (fun q6 => ?_)
    · refine tr_mask [true, false, true] rfl ?_
      exact B37 σ4 y2_4 y1_4
    · refine tr_aload_n C (i := 0) dX5_lays1_23 rfl rfl ?_
      refine tr_getR C (k := 29) (ci := 5) rfl rfl rfl inT5 rfl (by decide) w977 dX5_lays1_24 ?_
      refine tr_iload_n C (i := 2) dX5_lays1_27 rfl rfl ?_
      refine tr_iald C (n := 8) rfl dX5_lays1_28 (fun h5 => ?_)
      refine tr_iconst C (v := -1) dX5_lays1_29 (by decide) ?_
      refine tr_icmp_ne C (tgt := 37) dX5_lays1_30 (by decide) (fun q4 => ?_) (fun q4 => ?_)
      · refine tr_iconst C (v := 1) dX5_lays1_33 (by decide) ?_
        refine tr_goto C (tgt := 38) dX5_lays1_34 (by decide) ?_
        refine tr_mask [true, false, true] rfl ?_
        exact B38 σ4 y2_4 1 y1_4
      · refine tr_mask [true, false, true] rfl ?_
        exact B37 σ4 y2_4 y1_4
def fX5_strokes_b94 (a1 : Int32) (ih36 : Mem × Int32 × Int32 × Int32 → Option (Int32 × Mem)) (σ94 : Mem) (y2_94 : Int32) (y3_94 : Int32) (y4_94 : Int32) (z0_94 : Int32) : Option (Int32 × Mem) :=
  if z0_94 = 0 then (
    gd (inB y4_94 8) (
      gd (inB y4_94 8) (stp (wr σ94 8 y4_94 (rd σ94 7 y4_94)) fun σw2 => (
        ih36 (σw2, y2_94, y3_94, y4_94 + 1)
      ))
    )
  ) else (
    bnd (fX5_isMovable y4_94 σ94) fun r5 σ5 => (
      if r5 = 0 then (
        gd (inB y4_94 8) (
          gd (inB y4_94 8) (stp (wr σ5 8 y4_94 (rd σ5 7 y4_94)) fun σw6 => (
            ih36 (σw6, y2_94, y3_94, y4_94 + 1)
          ))
        )
      ) else (
        bnd (fX5_goesOf y4_94 σ5) fun r9 σ9 => (
          bn1 (fX5_swept y4_94 y3_94 r9 σ9) fun r10 => (
            gd (inB y4_94 8) (stp (wr σ9 8 y4_94 r10) fun σw11 => (
              ih36 (σw11, y2_94, y3_94, y4_94 + 1)
            ))
          )
        )
      )
    )
  )
def fX5_strokes_b93 (a1 : Int32) (ih36 : Mem × Int32 × Int32 × Int32 → Option (Int32 × Mem)) (σ93 : Mem) (y2_93 : Int32) (y3_93 : Int32) (y4_93 : Int32) : Option (Int32 × Mem) :=
  fX5_strokes_b94 a1 ih36 σ93 y2_93 y3_93 y4_93 0
def fX5_strokes_b85 (a1 : Int32) (ih36 : Mem × Int32 × Int32 × Int32 → Option (Int32 × Mem)) (σ85 : Mem) (y2_85 : Int32) (y3_85 : Int32) (y4_85 : Int32) (z0_85 : Int32) : Option (Int32 × Mem) :=
  if z0_85 = y2_85 then (
    fX5_strokes_b94 a1 ih36 σ85 y2_85 y3_85 y4_85 1
  ) else (
    fX5_strokes_b93 a1 ih36 σ85 y2_85 y3_85 y4_85
  )
def fX5_strokes_L36 (a1 : Int32) (ih36 : Mem × Int32 × Int32 × Int32 → Option (Int32 × Mem)) : Mem × Int32 × Int32 × Int32 → Option (Int32 × Mem) := fun v => match v with
  | (σ36, y2_36, y3_36, y4_36) =>
    if (σ36.1 0 13) ≤ y4_36 then (
      bnd (fX5_lays1 σ36) fun r1 σ1 => (
        some (r1, σ1)
      )
    ) else (
      gd (inB y4_36 8) (
        if (rd σ36 7 y4_36) = (-1) then (
          fX5_strokes_b93 a1 ih36 σ36 y2_36 y3_36 y4_36
        ) else (
          if 12 ≤ a1 then (
            gd (inB y4_36 8) (
              fX5_strokes_b85 a1 ih36 σ36 y2_36 y3_36 y4_36 ((rd σ36 7 y4_36) - (rd σ36 7 y4_36) / 6 * 6)
            )
          ) else (
            gd (inB y4_36 8) (
              fX5_strokes_b85 a1 ih36 σ36 y2_36 y3_36 y4_36 ((rd σ36 7 y4_36) / 6)
            )
          )
        )
      )
    )
def fX5_strokes_b14 (a1 : Int32) (σ14 : Mem) (z0_14 : Int32) : Option (Int32 × Mem) :=
  if 12 ≤ a1 then (
    loopN (fX5_strokes_L36 a1) 1000 (σ14, z0_14 / 2, 3 + (a1 - a1 / 2 * 2), 0)
  ) else (
    loopN (fX5_strokes_L36 a1) 1000 (σ14, z0_14 / 2, 1 + (a1 - a1 / 2 * 2), 0)
  )
def fX5_strokes (a1 : Int32) (σ : Mem) : Option (Int32 × Mem) :=
  if 12 ≤ a1 then (
    fX5_strokes_b14 a1 σ (a1 - 12)
  ) else (
    fX5_strokes_b14 a1 σ a1
  )
set_option maxHeartbeats 4000000 in
set_option maxRecDepth 100000 in
theorem kX5_strokes (l : Launch) (g : GG) (cs : CS) (ad : Nat → Nat) (a1 : Int32) (σ : Mem) : CtI l g cs ad (shM g) mX5_strokes (.code mX5_strokes cX5_strokes 6 (some .int)) { frames := 78, cells := 0, slots := 0, locals := 2895 } [.ref (ad 0), .int a1] σ (fX5_strokes a1 σ) := by
  refine ctI_intro (own := "KinInTheHeapModel") (by decide +kernel) rfl [some (.ref (ad 0)), some (.int a1), none, none, none, none] (Nat.le_of_ble_eq_true rfl) rfl ?_
  intro p e s m args below meth c A C hr hlk
  refine tr_iload_n C (i := 1) dX5_strokes_0 rfl rfl ?_
  refine tr_bipush C (v := 12) dX5_strokes_1 (by decide) ?_
  have B14 : ∀ (σ14 : Mem) (z0_14 : Int32), Tr p l e { frames := 78, cells := 0, slots := 0, locals := 2895 } s m args below meth c g ad (shM g) A 6 (QI g ad (shM g) A below args s) (fX5_strokes_b14 a1 σ14 z0_14) σ14 14 [some (.ref (ad 0)), some (.int a1), none, none, none, none] [.int z0_14] := by
    intro σ14 z0_14
    refine tr_iconst C (v := 2) dX5_strokes_14 (by decide) ?_
    refine tr_idivK C dX5_strokes_15 (by decide) ?_
    refine tr_istore_n C (i := 2) (lv' := [some (.ref (ad 0)), some (.int a1), some (.int (z0_14 / 2)), none, none, none]) dX5_strokes_16 rfl (by decide) rfl ?_
    refine tr_iload_n C (i := 1) dX5_strokes_17 rfl rfl ?_
    refine tr_bipush C (v := 12) dX5_strokes_18 (by decide) ?_
    refine tr_icmp_ge C (tgt := 27) dX5_strokes_20 (by decide) (fun q29 => ?_) (fun q29 => ?_)
    · refine tr_iconst C (v := 3) dX5_strokes_27 (by decide) ?_
      refine tr_iload_n C (i := 1) dX5_strokes_28 rfl rfl ?_
      refine tr_iconst C (v := 2) dX5_strokes_29 (by decide) ?_
      refine tr_iremK C dX5_strokes_30 (by decide) ?_
      refine tr_iadd C dX5_strokes_31 ?_
      refine tr_istore_n C (i := 3) (lv' := [some (.ref (ad 0)), some (.int a1), some (.int (z0_14 / 2)), some (.int (3 + (a1 - a1 / 2 * 2))), none, none]) dX5_strokes_32 rfl (by decide) rfl ?_
      refine tr_iconst C (v := 0) dX5_strokes_33 (by decide) ?_
      refine tr_istore C (i := 4) (lv' := [some (.ref (ad 0)), some (.int a1), some (.int (z0_14 / 2)), some (.int (3 + (a1 - a1 / 2 * 2))), some (.int 0), none]) dX5_strokes_34 (by decide) rfl ?_
      refine tr_loop (b := fX5_strokes_L36 a1) (sg := fun v => v.1) (lw := fun v => [some (.ref (ad 0)), some (.int a1), some (.int v.2.1), some (.int v.2.2.1), some (.int v.2.2.2), none]) (sw := fun v => []) (fun ih36 IH36 v => ?_) 1000 (σ14, z0_14 / 2, 3 + (a1 - a1 / 2 * 2), 0)
      obtain ⟨σ36, y2_36, y3_36, y4_36⟩ := v
      refine tr_st (σ' := σ36) (lv' := [some (.ref (ad 0)), some (.int a1), some (.int y2_36), some (.int y3_36), some (.int y4_36), none]) (st' := []) rfl rfl rfl ?_
      refine tr_iload C (i := 4) dX5_strokes_36 rfl ?_
      refine tr_aload_n C (i := 0) dX5_strokes_38 rfl rfl ?_
      refine tr_getI C (k := 13) (ci := 5) rfl rfl rfl inT5 rfl (by decide) w961 dX5_strokes_39 ?_
      refine tr_icmp_ge C (tgt := 146) dX5_strokes_42 (by decide) (fun q21 => ?_) (fun q21 => ?_)
      · refine tr_aload_n C (i := 0) dX5_strokes_146 rfl rfl ?_
        refine tr_cVI C (av := []) (st := []) (kX5_lays1 l g cs ad σ36) mwX5_lays1 w1255 rfl rfl ⟨rfl, rfl⟩ ⟨(Nat.le_of_ble_eq_true rfl), (Nat.le_of_ble_eq_true rfl)⟩ rfl rfl (Nat.le_of_ble_eq_true rfl) dX5_strokes_147 (fun r1 σ1 hr1 => ?_)
        exact tr_iret C hr hlk dX5_strokes_150
      · refine tr_aload_n C (i := 0) dX5_strokes_45 rfl rfl ?_
        refine tr_getR C (k := 12) (ci := 5) rfl rfl rfl inT5 rfl (by decide) w960 dX5_strokes_46 ?_
        refine tr_iload C (i := 4) dX5_strokes_49 rfl ?_
        refine tr_iald C (n := 8) rfl dX5_strokes_51 (fun h20 => ?_)
        refine tr_iconst C (v := -1) dX5_strokes_52 (by decide) ?_
        have B94 : ∀ (σ94 : Mem) (y2_94 : Int32) (y3_94 : Int32) (y4_94 : Int32) (z0_94 : Int32), Tr p l e { frames := 78, cells := 0, slots := 0, locals := 2895 } s m args below meth c g ad (shM g) A 6 (QI g ad (shM g) A below args s) (fX5_strokes_b94 a1 ih36 σ94 y2_94 y3_94 y4_94 z0_94) σ94 94 [some (.ref (ad 0)), some (.int a1), some (.int y2_94), some (.int y3_94), some (.int y4_94), none] [.int z0_94] := by
          intro σ94 y2_94 y3_94 y4_94 z0_94
          refine tr_istore C (i := 5) (lv' := [some (.ref (ad 0)), some (.int a1), some (.int y2_94), some (.int y3_94), some (.int y4_94), some (.int z0_94)]) dX5_strokes_94 (by decide) rfl ?_
          refine tr_aload_n C (i := 0) dX5_strokes_96 rfl rfl ?_
          refine tr_getR C (k := 29) (ci := 5) rfl rfl rfl inT5 rfl (by decide) w977 dX5_strokes_97 ?_
          refine tr_iload C (i := 4) dX5_strokes_100 rfl ?_
          refine tr_iload C (i := 5) dX5_strokes_102 rfl ?_
          refine tr_if_eq C (tgt := 132) dX5_strokes_104 (by decide) (fun q14 => ?_) (fun q14 => ?_)
          · refine tr_aload_n C (i := 0) dX5_strokes_132 rfl rfl ?_
            refine tr_getR C (k := 12) (ci := 5) rfl rfl rfl inT5 rfl (by decide) w960 dX5_strokes_133 ?_
            refine tr_iload C (i := 4) dX5_strokes_136 rfl ?_
            refine tr_iald C (n := 8) rfl dX5_strokes_138 (fun h4 => ?_)
            refine tr_iast C (n := 8) (σ' := wr σ94 8 y4_94 (rd σ94 7 y4_94)) rfl dX5_strokes_139 rfl (fun h3 => ?_)
            refine tr_stp (fun σw2 eσw2 => ?_)
            refine tr_iinc C (i := 4) (d := 1) (lv' := [some (.ref (ad 0)), some (.int a1), some (.int y2_94), some (.int y3_94), some (.int (y4_94 + 1)), some (.int z0_94)]) dX5_strokes_140 rfl (by decide) (by decide) rfl ?_
            refine tr_goto C (tgt := 36) dX5_strokes_143 (by decide) ?_
            refine tr_mask [true, true, true, true, true, false] rfl ?_
            exact IH36 (σw2, y2_94, y3_94, y4_94 + 1)
          · refine tr_aload_n C (i := 0) dX5_strokes_107 rfl rfl ?_
            refine tr_iload C (i := 4) dX5_strokes_108 rfl ?_
            refine tr_cVI C (av := [.int y4_94]) (st := [.int y4_94, .ref (ad 8)]) (kX5_isMovable l g cs ad y4_94 σ94) mwX5_isMovable w1244 rfl rfl ⟨rfl, rfl⟩ ⟨(Nat.le_of_ble_eq_true rfl), (Nat.le_of_ble_eq_true rfl)⟩ rfl rfl (Nat.le_of_ble_eq_true rfl) dX5_strokes_110 (fun r5 σ5 hr5 => ?_)
            refine tr_if_eq C (tgt := 132) dX5_strokes_113 (by decide) (fun q13 => ?_) (fun q13 => ?_)
            · refine tr_aload_n C (i := 0) dX5_strokes_132 rfl rfl ?_
              refine tr_getR C (k := 12) (ci := 5) rfl rfl rfl inT5 rfl (by decide) w960 dX5_strokes_133 ?_
              refine tr_iload C (i := 4) dX5_strokes_136 rfl ?_
              refine tr_iald C (n := 8) rfl dX5_strokes_138 (fun h8 => ?_)
              refine tr_iast C (n := 8) (σ' := wr σ5 8 y4_94 (rd σ5 7 y4_94)) rfl dX5_strokes_139 rfl (fun h7 => ?_)
              refine tr_stp (fun σw6 eσw6 => ?_)
              refine tr_iinc C (i := 4) (d := 1) (lv' := [some (.ref (ad 0)), some (.int a1), some (.int y2_94), some (.int y3_94), some (.int (y4_94 + 1)), some (.int z0_94)]) dX5_strokes_140 rfl (by decide) (by decide) rfl ?_
              refine tr_goto C (tgt := 36) dX5_strokes_143 (by decide) ?_
              refine tr_mask [true, true, true, true, true, false] rfl ?_
              exact IH36 (σw6, y2_94, y3_94, y4_94 + 1)
            · refine tr_aload_n C (i := 0) dX5_strokes_116 rfl rfl ?_
              refine tr_iload C (i := 4) dX5_strokes_117 rfl ?_
              refine tr_iload_n C (i := 3) dX5_strokes_119 rfl rfl ?_
              refine tr_aload_n C (i := 0) dX5_strokes_120 rfl rfl ?_
              refine tr_iload C (i := 4) dX5_strokes_121 rfl ?_
              refine tr_cVI C (av := [.int y4_94]) (st := [.int y3_94, .int y4_94, .ref (ad 0), .int y4_94, .ref (ad 8)]) (kX5_goesOf l g cs ad y4_94 σ5) mwX5_goesOf w1112 rfl rfl ⟨rfl, rfl⟩ ⟨(Nat.le_of_ble_eq_true rfl), (Nat.le_of_ble_eq_true rfl)⟩ rfl rfl (Nat.le_of_ble_eq_true rfl) dX5_strokes_123 (fun r9 σ9 hr9 => ?_)
              refine tr_cVIP C (av := [.int y4_94, .int y3_94, .int r9]) (st := [.int y4_94, .ref (ad 8)]) (kX5_swept l g cs ad y4_94 y3_94 r9 σ9) mwX5_swept w1248 rfl rfl ⟨rfl, rfl⟩ ⟨(Nat.le_of_ble_eq_true rfl), (Nat.le_of_ble_eq_true rfl)⟩ rfl rfl (Nat.le_of_ble_eq_true rfl) dX5_strokes_126 (fun r10 hr10 => ?_)
              refine tr_goto C (tgt := 139) dX5_strokes_129 (by decide) ?_
              refine tr_iast C (n := 8) (σ' := wr σ9 8 y4_94 r10) rfl dX5_strokes_139 rfl (fun h12 => ?_)
              refine tr_stp (fun σw11 eσw11 => ?_)
              refine tr_iinc C (i := 4) (d := 1) (lv' := [some (.ref (ad 0)), some (.int a1), some (.int y2_94), some (.int y3_94), some (.int (y4_94 + 1)), some (.int z0_94)]) dX5_strokes_140 rfl (by decide) (by decide) rfl ?_
              refine tr_goto C (tgt := 36) dX5_strokes_143 (by decide) ?_
              refine tr_mask [true, true, true, true, true, false] rfl ?_
              exact IH36 (σw11, y2_94, y3_94, y4_94 + 1)
        have B93 : ∀ (σ93 : Mem) (y2_93 : Int32) (y3_93 : Int32) (y4_93 : Int32), Tr p l e { frames := 78, cells := 0, slots := 0, locals := 2895 } s m args below meth c g ad (shM g) A 6 (QI g ad (shM g) A below args s) (fX5_strokes_b93 a1 ih36 σ93 y2_93 y3_93 y4_93) σ93 93 [some (.ref (ad 0)), some (.int a1), some (.int y2_93), some (.int y3_93), some (.int y4_93), none] [] := by
          intro σ93 y2_93 y3_93 y4_93
          refine tr_iconst C (v := 0) dX5_strokes_93 (by decide) ?_
          exact B94 σ93 y2_93 y3_93 y4_93 0
        refine tr_icmp_eq C (tgt := 93) dX5_strokes_53 (by decide) (fun q19 => ?_) (fun q19 => ?_)
        · exact B93 σ36 y2_36 y3_36 y4_36
        · refine tr_iload_n C (i := 1) dX5_strokes_56 rfl rfl ?_
          refine tr_bipush C (v := 12) dX5_strokes_57 (by decide) ?_
          have B85 : ∀ (σ85 : Mem) (y2_85 : Int32) (y3_85 : Int32) (y4_85 : Int32) (z0_85 : Int32), Tr p l e { frames := 78, cells := 0, slots := 0, locals := 2895 } s m args below meth c g ad (shM g) A 6 (QI g ad (shM g) A below args s) (fX5_strokes_b85 a1 ih36 σ85 y2_85 y3_85 y4_85 z0_85) σ85 85 [some (.ref (ad 0)), some (.int a1), some (.int y2_85), some (.int y3_85), some (.int y4_85), none] [.int z0_85] := by
            intro σ85 y2_85 y3_85 y4_85 z0_85
            refine tr_iload_n C (i := 2) dX5_strokes_85 rfl rfl ?_
            refine tr_icmp_ne C (tgt := 93) dX5_strokes_86 (by decide) (fun q15 => ?_) (fun q15 => ?_)
            · refine tr_iconst C (v := 1) dX5_strokes_89 (by decide) ?_
              refine tr_goto C (tgt := 94) dX5_strokes_90 (by decide) ?_
              exact B94 σ85 y2_85 y3_85 y4_85 1
            · exact B93 σ85 y2_85 y3_85 y4_85
          refine tr_icmp_ge C (tgt := 75) dX5_strokes_59 (by decide) (fun q18 => ?_) (fun q18 => ?_)
          · refine tr_aload_n C (i := 0) dX5_strokes_75 rfl rfl ?_
            refine tr_getR C (k := 12) (ci := 5) rfl rfl rfl inT5 rfl (by decide) w960 dX5_strokes_76 ?_
            refine tr_iload C (i := 4) dX5_strokes_79 rfl ?_
            refine tr_iald C (n := 8) rfl dX5_strokes_81 (fun h16 => ?_)
            refine tr_bipush C (v := 6) dX5_strokes_82 (by decide) ?_
            refine tr_iremK C dX5_strokes_84 (by decide) ?_
            exact B85 σ36 y2_36 y3_36 y4_36 ((rd σ36 7 y4_36) - (rd σ36 7 y4_36) / 6 * 6)
          · refine tr_aload_n C (i := 0) dX5_strokes_62 rfl rfl ?_
            refine tr_getR C (k := 12) (ci := 5) rfl rfl rfl inT5 rfl (by decide) w960 dX5_strokes_63 ?_
            refine tr_iload C (i := 4) dX5_strokes_66 rfl ?_
            refine tr_iald C (n := 8) rfl dX5_strokes_68 (fun h17 => ?_)
            refine tr_bipush C (v := 6) dX5_strokes_69 (by decide) ?_
            refine tr_idivK C dX5_strokes_71 (by decide) ?_
            refine tr_goto C (tgt := 85) dX5_strokes_72 (by decide) ?_
            exact B85 σ36 y2_36 y3_36 y4_36 ((rd σ36 7 y4_36) / 6)
    · refine tr_iconst C (v := 1) dX5_strokes_23 (by decide) ?_
      refine tr_goto C (tgt := 28) dX5_strokes_24 (by decide) ?_
      refine tr_iload_n C (i := 1) dX5_strokes_28 rfl rfl ?_
      refine tr_iconst C (v := 2) dX5_strokes_29 (by decide) ?_
      refine tr_iremK C dX5_strokes_30 (by decide) ?_
      refine tr_iadd C dX5_strokes_31 ?_
      refine tr_istore_n C (i := 3) (lv' := [some (.ref (ad 0)), some (.int a1), some (.int (z0_14 / 2)), some (.int (1 + (a1 - a1 / 2 * 2))), none, none]) dX5_strokes_32 rfl (by decide) rfl ?_
      refine tr_iconst C (v := 0) dX5_strokes_33 (by decide) ?_
      refine tr_istore C (i := 4) (lv' := [some (.ref (ad 0)), some (.int a1), some (.int (z0_14 / 2)), some (.int (1 + (a1 - a1 / 2 * 2))), some (.int 0), none]) dX5_strokes_34 (by decide) rfl ?_
      refine tr_loop (b := fX5_strokes_L36 a1) (sg := fun v => v.1) (lw := fun v => [some (.ref (ad 0)), some (.int a1), some (.int v.2.1), some (.int v.2.2.1), some (.int v.2.2.2), none]) (sw := fun v => []) (fun ih36 IH36 v => ?_) 1000 (σ14, z0_14 / 2, 1 + (a1 - a1 / 2 * 2), 0)
      obtain ⟨σ36, y2_36, y3_36, y4_36⟩ := v
      refine tr_st (σ' := σ36) (lv' := [some (.ref (ad 0)), some (.int a1), some (.int y2_36), some (.int y3_36), some (.int y4_36), none]) (st' := []) rfl rfl rfl ?_
      refine tr_iload C (i := 4) dX5_strokes_36 rfl ?_
      refine tr_aload_n C (i := 0) dX5_strokes_38 rfl rfl ?_
      refine tr_getI C (k := 13) (ci := 5) rfl rfl rfl inT5 rfl (by decide) w961 dX5_strokes_39 ?_
      refine tr_icmp_ge C (tgt := 146) dX5_strokes_42 (by decide) (fun q28 => ?_) (fun q28 => ?_)
      · refine tr_aload_n C (i := 0) dX5_strokes_146 rfl rfl ?_
        refine tr_cVI C (av := []) (st := []) (kX5_lays1 l g cs ad σ36) mwX5_lays1 w1255 rfl rfl ⟨rfl, rfl⟩ ⟨(Nat.le_of_ble_eq_true rfl), (Nat.le_of_ble_eq_true rfl)⟩ rfl rfl (Nat.le_of_ble_eq_true rfl) dX5_strokes_147 (fun r22 σ22 hr22 => ?_)
        exact tr_iret C hr hlk dX5_strokes_150
      · refine tr_aload_n C (i := 0) dX5_strokes_45 rfl rfl ?_
        refine tr_getR C (k := 12) (ci := 5) rfl rfl rfl inT5 rfl (by decide) w960 dX5_strokes_46 ?_
        refine tr_iload C (i := 4) dX5_strokes_49 rfl ?_
        refine tr_iald C (n := 8) rfl dX5_strokes_51 (fun h27 => ?_)
        refine tr_iconst C (v := -1) dX5_strokes_52 (by decide) ?_
        have B94 : ∀ (σ94 : Mem) (y2_94 : Int32) (y3_94 : Int32) (y4_94 : Int32) (z0_94 : Int32), Tr p l e { frames := 78, cells := 0, slots := 0, locals := 2895 } s m args below meth c g ad (shM g) A 6 (QI g ad (shM g) A below args s) (fX5_strokes_b94 a1 ih36 σ94 y2_94 y3_94 y4_94 z0_94) σ94 94 [some (.ref (ad 0)), some (.int a1), some (.int y2_94), some (.int y3_94), some (.int y4_94), none] [.int z0_94] := by
          intro σ94 y2_94 y3_94 y4_94 z0_94
          refine tr_istore C (i := 5) (lv' := [some (.ref (ad 0)), some (.int a1), some (.int y2_94), some (.int y3_94), some (.int y4_94), some (.int z0_94)]) dX5_strokes_94 (by decide) rfl ?_
          refine tr_aload_n C (i := 0) dX5_strokes_96 rfl rfl ?_
          refine tr_getR C (k := 29) (ci := 5) rfl rfl rfl inT5 rfl (by decide) w977 dX5_strokes_97 ?_
          refine tr_iload C (i := 4) dX5_strokes_100 rfl ?_
          refine tr_iload C (i := 5) dX5_strokes_102 rfl ?_
          refine tr_if_eq C (tgt := 132) dX5_strokes_104 (by decide) (fun q14 => ?_) (fun q14 => ?_)
          · refine tr_aload_n C (i := 0) dX5_strokes_132 rfl rfl ?_
            refine tr_getR C (k := 12) (ci := 5) rfl rfl rfl inT5 rfl (by decide) w960 dX5_strokes_133 ?_
            refine tr_iload C (i := 4) dX5_strokes_136 rfl ?_
            refine tr_iald C (n := 8) rfl dX5_strokes_138 (fun h4 => ?_)
            refine tr_iast C (n := 8) (σ' := wr σ94 8 y4_94 (rd σ94 7 y4_94)) rfl dX5_strokes_139 rfl (fun h3 => ?_)
            refine tr_stp (fun σw2 eσw2 => ?_)
            refine tr_iinc C (i := 4) (d := 1) (lv' := [some (.ref (ad 0)), some (.int a1), some (.int y2_94), some (.int y3_94), some (.int (y4_94 + 1)), some (.int z0_94)]) dX5_strokes_140 rfl (by decide) (by decide) rfl ?_
            refine tr_goto C (tgt := 36) dX5_strokes_143 (by decide) ?_
            refine tr_mask [true, true, true, true, true, false] rfl ?_
            exact IH36 (σw2, y2_94, y3_94, y4_94 + 1)
          · refine tr_aload_n C (i := 0) dX5_strokes_107 rfl rfl ?_
            refine tr_iload C (i := 4) dX5_strokes_108 rfl ?_
            refine tr_cVI C (av := [.int y4_94]) (st := [.int y4_94, .ref (ad 8)]) (kX5_isMovable l g cs ad y4_94 σ94) mwX5_isMovable w1244 rfl rfl ⟨rfl, rfl⟩ ⟨(Nat.le_of_ble_eq_true rfl), (Nat.le_of_ble_eq_true rfl)⟩ rfl rfl (Nat.le_of_ble_eq_true rfl) dX5_strokes_110 (fun r5 σ5 hr5 => ?_)
            refine tr_if_eq C (tgt := 132) dX5_strokes_113 (by decide) (fun q13 => ?_) (fun q13 => ?_)
            · refine tr_aload_n C (i := 0) dX5_strokes_132 rfl rfl ?_
              refine tr_getR C (k := 12) (ci := 5) rfl rfl rfl inT5 rfl (by decide) w960 dX5_strokes_133 ?_
              refine tr_iload C (i := 4) dX5_strokes_136 rfl ?_
              refine tr_iald C (n := 8) rfl dX5_strokes_138 (fun h8 => ?_)
              refine tr_iast C (n := 8) (σ' := wr σ5 8 y4_94 (rd σ5 7 y4_94)) rfl dX5_strokes_139 rfl (fun h7 => ?_)
              refine tr_stp (fun σw6 eσw6 => ?_)
              refine tr_iinc C (i := 4) (d := 1) (lv' := [some (.ref (ad 0)), some (.int a1), some (.int y2_94), some (.int y3_94), some (.int (y4_94 + 1)), some (.int z0_94)]) dX5_strokes_140 rfl (by decide) (by decide) rfl ?_
              refine tr_goto C (tgt := 36) dX5_strokes_143 (by decide) ?_
              refine tr_mask [true, true, true, true, true, false] rfl ?_
              exact IH36 (σw6, y2_94, y3_94, y4_94 + 1)
            · refine tr_aload_n C (i := 0) dX5_strokes_116 rfl rfl ?_
              refine tr_iload C (i := 4) dX5_strokes_117 rfl ?_
              refine tr_iload_n C (i := 3) dX5_strokes_119 rfl rfl ?_
              refine tr_aload_n C (i := 0) dX5_strokes_120 rfl rfl ?_
              refine tr_iload C (i := 4) dX5_strokes_121 rfl ?_
              refine tr_cVI C (av := [.int y4_94]) (st := [.int y3_94, .int y4_94, .ref (ad 0), .int y4_94, .ref (ad 8)]) (kX5_goesOf l g cs ad y4_94 σ5) mwX5_goesOf w1112 rfl rfl ⟨rfl, rfl⟩ ⟨(Nat.le_of_ble_eq_true rfl), (Nat.le_of_ble_eq_true rfl)⟩ rfl rfl (Nat.le_of_ble_eq_true rfl) dX5_strokes_123 (fun r9 σ9 hr9 => ?_)
              refine tr_cVIP C (av := [.int y4_94, .int y3_94, .int r9]) (st := [.int y4_94, .ref (ad 8)]) (kX5_swept l g cs ad y4_94 y3_94 r9 σ9) mwX5_swept w1248 rfl rfl ⟨rfl, rfl⟩ ⟨(Nat.le_of_ble_eq_true rfl), (Nat.le_of_ble_eq_true rfl)⟩ rfl rfl (Nat.le_of_ble_eq_true rfl) dX5_strokes_126 (fun r10 hr10 => ?_)
              refine tr_goto C (tgt := 139) dX5_strokes_129 (by decide) ?_
              refine tr_iast C (n := 8) (σ' := wr σ9 8 y4_94 r10) rfl dX5_strokes_139 rfl (fun h12 => ?_)
              refine tr_stp (fun σw11 eσw11 => ?_)
              refine tr_iinc C (i := 4) (d := 1) (lv' := [some (.ref (ad 0)), some (.int a1), some (.int y2_94), some (.int y3_94), some (.int (y4_94 + 1)), some (.int z0_94)]) dX5_strokes_140 rfl (by decide) (by decide) rfl ?_
              refine tr_goto C (tgt := 36) dX5_strokes_143 (by decide) ?_
              refine tr_mask [true, true, true, true, true, false] rfl ?_
              exact IH36 (σw11, y2_94, y3_94, y4_94 + 1)
        have B93 : ∀ (σ93 : Mem) (y2_93 : Int32) (y3_93 : Int32) (y4_93 : Int32), Tr p l e { frames := 78, cells := 0, slots := 0, locals := 2895 } s m args below meth c g ad (shM g) A 6 (QI g ad (shM g) A below args s) (fX5_strokes_b93 a1 ih36 σ93 y2_93 y3_93 y4_93) σ93 93 [some (.ref (ad 0)), some (.int a1), some (.int y2_93), some (.int y3_93), some (.int y4_93), none] [] := by
          intro σ93 y2_93 y3_93 y4_93
          refine tr_iconst C (v := 0) dX5_strokes_93 (by decide) ?_
          exact B94 σ93 y2_93 y3_93 y4_93 0
        refine tr_icmp_eq C (tgt := 93) dX5_strokes_53 (by decide) (fun q26 => ?_) (fun q26 => ?_)
        · exact B93 σ36 y2_36 y3_36 y4_36
        · refine tr_iload_n C (i := 1) dX5_strokes_56 rfl rfl ?_
          refine tr_bipush C (v := 12) dX5_strokes_57 (by decide) ?_
          have B85 : ∀ (σ85 : Mem) (y2_85 : Int32) (y3_85 : Int32) (y4_85 : Int32) (z0_85 : Int32), Tr p l e { frames := 78, cells := 0, slots := 0, locals := 2895 } s m args below meth c g ad (shM g) A 6 (QI g ad (shM g) A below args s) (fX5_strokes_b85 a1 ih36 σ85 y2_85 y3_85 y4_85 z0_85) σ85 85 [some (.ref (ad 0)), some (.int a1), some (.int y2_85), some (.int y3_85), some (.int y4_85), none] [.int z0_85] := by
            intro σ85 y2_85 y3_85 y4_85 z0_85
            refine tr_iload_n C (i := 2) dX5_strokes_85 rfl rfl ?_
            refine tr_icmp_ne C (tgt := 93) dX5_strokes_86 (by decide) (fun q15 => ?_) (fun q15 => ?_)
            · refine tr_iconst C (v := 1) dX5_strokes_89 (by decide) ?_
              refine tr_goto C (tgt := 94) dX5_strokes_90 (by decide) ?_
              exact B94 σ85 y2_85 y3_85 y4_85 1
            · exact B93 σ85 y2_85 y3_85 y4_85
          refine tr_icmp_ge C (tgt := 75) dX5_strokes_59 (by decide) (fun q25 => ?_) (fun q25 => ?_)
          · refine tr_aload_n C (i := 0) dX5_strokes_75 rfl rfl ?_
            refine tr_getR C (k := 12) (ci := 5) rfl rfl rfl inT5 rfl (by decide) w960 dX5_strokes_76 ?_
            refine tr_iload C (i := 4) dX5_strokes_79 rfl ?_
            refine tr_iald C (n := 8) rfl dX5_strokes_81 (fun h23 => ?_)
            refine tr_bipush C (v := 6) dX5_strokes_82 (by decide) ?_
            refine tr_iremK C dX5_strokes_84 (by decide) ?_
            exact B85 σ36 y2_36 y3_36 y4_36 ((rd σ36 7 y4_36) - (rd σ36 7 y4_36) / 6 * 6)
          · refine tr_aload_n C (i := 0) dX5_strokes_62 rfl rfl ?_
            refine tr_getR C (k := 12) (ci := 5) rfl rfl rfl inT5 rfl (by decide) w960 dX5_strokes_63 ?_
            refine tr_iload C (i := 4) dX5_strokes_66 rfl ?_
            refine tr_iald C (n := 8) rfl dX5_strokes_68 (fun h24 => ?_)
            refine tr_bipush C (v := 6) dX5_strokes_69 (by decide) ?_
            refine tr_idivK C dX5_strokes_71 (by decide) ?_
            refine tr_goto C (tgt := 85) dX5_strokes_72 (by decide) ?_
            exact B85 σ36 y2_36 y3_36 y4_36 ((rd σ36 7 y4_36) / 6)
  refine tr_icmp_ge C (tgt := 10) dX5_strokes_3 (by decide) (fun q30 => ?_) (fun q30 => ?_)
  · refine tr_iload_n C (i := 1) dX5_strokes_10 rfl rfl ?_
    refine tr_bipush C (v := 12) dX5_strokes_11 (by decide) ?_
    refine tr_isub C dX5_strokes_13 ?_
    exact B14 σ (a1 - 12)
  · refine tr_iload_n C (i := 1) dX5_strokes_6 rfl rfl ?_
    refine tr_goto C (tgt := 14) dX5_strokes_7 (by decide) ?_
    exact B14 σ a1
def fX5_isStroke (a1 : Int32) (σ : Mem) : Option (Int32) :=
  bn1 (fX5_in a1.toInt64 0 23 σ) fun r1 => (
    gd (isB r1) (some r1)
  )
set_option maxHeartbeats 4000000 in
set_option maxRecDepth 100000 in
theorem kX5_isStroke (l : Launch) (g : GG) (cs : CS) (ad : Nat → Nat) (a1 : Int32) (σ : Mem) : CtI l g cs ad (shM g) mX5_isStroke (.code mX5_isStroke cX5_isStroke 1 (some .boolean)) { frames := 1, cells := 0, slots := 0, locals := 25 } [.int a1] σ (pur (fX5_isStroke a1 σ) σ) := by
  refine ctIP_intro (own := "KinInTheHeapModel") (by decide +kernel) rfl [some (.int a1)] (Nat.le_of_ble_eq_true rfl) rfl ?_
  intro p e s m args below meth c A C hr hlk
  refine tr_iload_n C (i := 0) dX5_isStroke_0 rfl rfl ?_
  refine tr_i2l C dX5_isStroke_1 ?_
  refine tr_lconst C (v := 0) dX5_isStroke_2 (by decide) ?_
  refine tr_ldc2 C (v := 23) w1239 dX5_isStroke_3 ?_
  refine tr_cSIP C (av := [.long a1.toInt64, .long 0, .long 23]) (st := []) (kX5_in l g cs ad a1.toInt64 0 23 σ) mwX5_in w1084 ⟨rfl, rfl⟩ ⟨(Nat.le_of_ble_eq_true rfl), (Nat.le_of_ble_eq_true rfl)⟩ rfl rfl (Nat.le_of_ble_eq_true rfl) dX5_isStroke_6 (fun r1 hr1 => ?_)
  exact tr_zretPG C hr hlk dX5_isStroke_9
def fX5_stroke (a1 : Int32) (σ : Mem) : Option (Int32 × Mem) :=
  bn1 (fX5_isStroke a1 σ) fun r1 => (
    if r1 = 0 then (
      some (-2, σ)
    ) else (
      bnd (fX5_strokes a1 σ) fun r2 σ2 => (
        some (r2, σ2)
      )
    )
  )
set_option maxHeartbeats 4000000 in
set_option maxRecDepth 100000 in
theorem kX5_stroke (l : Launch) (g : GG) (cs : CS) (ad : Nat → Nat) (a1 : Int32) (σ : Mem) : CtI l g cs ad (shM g) mX5_stroke (.code mX5_stroke cX5_stroke 2 (some .int)) { frames := 79, cells := 0, slots := 0, locals := 2920 } [.ref (ad 0), .int a1] σ (fX5_stroke a1 σ) := by
  refine ctI_intro (own := "KinInTheHeapModel") (by decide +kernel) rfl [some (.ref (ad 0)), some (.int a1)] (Nat.le_of_ble_eq_true rfl) rfl ?_
  intro p e s m args below meth c A C hr hlk
  refine tr_iload_n C (i := 1) dX5_stroke_0 rfl rfl ?_
  refine tr_cSIP C (av := [.int a1]) (st := []) (kX5_isStroke l g cs ad a1 σ) mwX5_isStroke w1236 ⟨rfl, rfl⟩ ⟨(Nat.le_of_ble_eq_true rfl), (Nat.le_of_ble_eq_true rfl)⟩ rfl rfl (Nat.le_of_ble_eq_true rfl) dX5_stroke_1 (fun r1 hr1 => ?_)
  refine tr_if_eq C (tgt := 15) dX5_stroke_4 (by decide) (fun q3 => ?_) (fun q3 => ?_)
  · refine tr_bipush C (v := -2) dX5_stroke_15 (by decide) ?_
    exact tr_iret C hr hlk dX5_stroke_17
  · refine tr_aload_n C (i := 0) dX5_stroke_7 rfl rfl ?_
    refine tr_iload_n C (i := 1) dX5_stroke_8 rfl rfl ?_
    refine tr_cVI C (av := [.int a1]) (st := []) (kX5_strokes l g cs ad a1 σ) mwX5_strokes w1240 rfl rfl ⟨rfl, rfl⟩ ⟨(Nat.le_of_ble_eq_true rfl), (Nat.le_of_ble_eq_true rfl)⟩ rfl rfl (Nat.le_of_ble_eq_true rfl) dX5_stroke_9 (fun r2 σ2 hr2 => ?_)
    refine tr_goto C (tgt := 17) dX5_stroke_12 (by decide) ?_
    exact tr_iret C hr hlk dX5_stroke_17
def fX5_passes_b63 (σ63 : Mem) : Option (Int32 × Mem) :=
  stp (putI σ63 0 7 ((σ63.1 0 7) + 1)) fun σw1 => (
    bnd (fX5_lays1 σw1) fun r2 σ2 => (
      some (r2, σ2)
    )
  )
def fX5_passes_b27 (ih2 : Mem × Int32 → Option (Int32 × Mem)) (σ27 : Mem) (y1_27 : Int32) (z0_27 : Int32) : Option (Int32 × Mem) :=
  if z0_27 = 0 then (
    gd (inB y1_27 8) (
      gd (inB y1_27 8) (stp (wr σ27 8 y1_27 (rd σ27 7 y1_27)) fun σw8 => (
        ih2 (σw8, y1_27 + 1)
      ))
    )
  ) else (
    gd (inB y1_27 8) (
      bn1 (fX5_beside (rd σ27 7 y1_27) z0_27 σ27) fun r4 => (
        gd (inB y1_27 8) (stp (wr σ27 8 y1_27 r4) fun σw5 => (
          ih2 (σw5, y1_27 + 1)
        ))
      )
    )
  )
def fX5_passes_L2 (ih2 : Mem × Int32 → Option (Int32 × Mem)) : Mem × Int32 → Option (Int32 × Mem) := fun v => match v with
  | (σ2, y1_2) =>
    if (σ2.1 0 13) ≤ y1_2 then (
      fX5_passes_b63 σ2
    ) else (
      bnd (fX5_isMovable y1_2 σ2) fun r3 σ3 => (
        if r3 = 0 then (
          fX5_passes_b27 ih2 σ3 y1_2 0
        ) else (
          bnd (fX5_blownOf y1_2 σ3) fun r12 σ12 => (
            fX5_passes_b27 ih2 σ12 y1_2 r12
          )
        )
      )
    )
def fX5_passes (σ : Mem) : Option (Int32 × Mem) :=
  loopN (fX5_passes_L2) 1000 (σ, 0)
set_option maxHeartbeats 4000000 in
set_option maxRecDepth 100000 in
theorem kX5_passes (l : Launch) (g : GG) (cs : CS) (ad : Nat → Nat) (σ : Mem) : CtI l g cs ad (shM g) mX5_passes (.code mX5_passes cX5_passes 3 (some .int)) { frames := 78, cells := 0, slots := 0, locals := 2895 } [.ref (ad 0)] σ (fX5_passes σ) := by
  refine ctI_intro (own := "KinInTheHeapModel") (by decide +kernel) rfl [some (.ref (ad 0)), none, none] (Nat.le_of_ble_eq_true rfl) rfl ?_
  intro p e s m args below meth c A C hr hlk
  refine tr_iconst C (v := 0) dX5_passes_0 (by decide) ?_
  refine tr_istore_n C (i := 1) (lv' := [some (.ref (ad 0)), some (.int 0), none]) dX5_passes_1 rfl (by decide) rfl ?_
  refine tr_loop (b := fX5_passes_L2) (sg := fun v => v.1) (lw := fun v => [some (.ref (ad 0)), some (.int v.2), none]) (sw := fun v => []) (fun ih2 IH2 v => ?_) 1000 (σ, 0)
  obtain ⟨σ2, y1_2⟩ := v
  refine tr_st (σ' := σ2) (lv' := [some (.ref (ad 0)), some (.int y1_2), none]) (st' := []) rfl rfl rfl ?_
  refine tr_iload_n C (i := 1) dX5_passes_2 rfl rfl ?_
  refine tr_aload_n C (i := 0) dX5_passes_3 rfl rfl ?_
  refine tr_getI C (k := 13) (ci := 5) rfl rfl rfl inT5 rfl (by decide) w961 dX5_passes_4 ?_
  have B63 : ∀ (σ63 : Mem), Tr p l e { frames := 78, cells := 0, slots := 0, locals := 2895 } s m args below meth c g ad (shM g) A 3 (QI g ad (shM g) A below args s) (fX5_passes_b63 σ63) σ63 63 [some (.ref (ad 0)), none, none] [] := by
    intro σ63
    refine tr_aload_n C (i := 0) dX5_passes_63 rfl rfl ?_
    refine tr_dup C dX5_passes_64 rfl ?_
    refine tr_getI C (k := 7) (ci := 5) rfl rfl rfl inT5 rfl (by decide) w955 dX5_passes_65 ?_
    refine tr_iconst C (v := 1) dX5_passes_68 (by decide) ?_
    refine tr_iadd C dX5_passes_69 ?_
    refine tr_putI C (k := 7) (ci := 5) (σ' := putI σ63 0 7 ((σ63.1 0 7) + 1)) rfl rfl rfl inT5 rfl (by decide) tyX5 tyX5_ok nmX5 rfl rfl w955 dX5_passes_70 rfl ?_
    refine tr_stp (fun σw1 eσw1 => ?_)
    refine tr_aload_n C (i := 0) dX5_passes_73 rfl rfl ?_
    refine tr_cVI C (av := []) (st := []) (kX5_lays1 l g cs ad σw1) mwX5_lays1 w1255 rfl rfl ⟨rfl, rfl⟩ ⟨(Nat.le_of_ble_eq_true rfl), (Nat.le_of_ble_eq_true rfl)⟩ rfl rfl (Nat.le_of_ble_eq_true rfl) dX5_passes_74 (fun r2 σ2 hr2 => ?_)
    exact tr_iret C hr hlk dX5_passes_77
  refine tr_icmp_ge C (tgt := 63) dX5_passes_7 (by decide) (fun q14 => ?_) (fun q14 => ?_)
  · refine tr_mask [true, false, false] rfl ?_
    exact B63 σ2
  · refine tr_aload_n C (i := 0) dX5_passes_10 rfl rfl ?_
    refine tr_iload_n C (i := 1) dX5_passes_11 rfl rfl ?_
    refine tr_cVI C (av := [.int y1_2]) (st := []) (kX5_isMovable l g cs ad y1_2 σ2) mwX5_isMovable w1244 rfl rfl ⟨rfl, rfl⟩ ⟨(Nat.le_of_ble_eq_true rfl), (Nat.le_of_ble_eq_true rfl)⟩ rfl rfl (Nat.le_of_ble_eq_true rfl) dX5_passes_12 (fun r3 σ3 hr3 => ?_)
    have B27 : ∀ (σ27 : Mem) (y1_27 : Int32) (z0_27 : Int32), Tr p l e { frames := 78, cells := 0, slots := 0, locals := 2895 } s m args below meth c g ad (shM g) A 3 (QI g ad (shM g) A below args s) (fX5_passes_b27 ih2 σ27 y1_27 z0_27) σ27 27 [some (.ref (ad 0)), some (.int y1_27), none] [.int z0_27] := by
      intro σ27 y1_27 z0_27
      refine tr_istore_n C (i := 2) (lv' := [some (.ref (ad 0)), some (.int y1_27), some (.int z0_27)]) dX5_passes_27 rfl (by decide) rfl ?_
      refine tr_aload_n C (i := 0) dX5_passes_28 rfl rfl ?_
      refine tr_getR C (k := 29) (ci := 5) rfl rfl rfl inT5 rfl (by decide) w977 dX5_passes_29 ?_
      refine tr_iload_n C (i := 1) dX5_passes_32 rfl rfl ?_
      refine tr_iload_n C (i := 2) dX5_passes_33 rfl rfl ?_
      refine tr_if_ne C (tgt := 46) dX5_passes_34 (by decide) (fun q11 => ?_) (fun q11 => ?_)
      · refine tr_aload_n C (i := 0) dX5_passes_37 rfl rfl ?_
        refine tr_getR C (k := 12) (ci := 5) rfl rfl rfl inT5 rfl (by decide) w960 dX5_passes_38 ?_
        refine tr_iload_n C (i := 1) dX5_passes_41 rfl rfl ?_
        refine tr_iald C (n := 8) rfl dX5_passes_42 (fun h10 => ?_)
        refine tr_goto C (tgt := 56) dX5_passes_43 (by decide) ?_
        refine tr_iast C (n := 8) (σ' := wr σ27 8 y1_27 (rd σ27 7 y1_27)) rfl dX5_passes_56 rfl (fun h9 => ?_)
        refine tr_stp (fun σw8 eσw8 => ?_)
        refine tr_iinc C (i := 1) (d := 1) (lv' := [some (.ref (ad 0)), some (.int (y1_27 + 1)), some (.int z0_27)]) dX5_passes_57 rfl (by decide) (by decide) rfl ?_
        refine tr_goto C (tgt := 2) dX5_passes_60 (by decide) ?_
        refine tr_mask [true, true, false] rfl ?_
        exact IH2 (σw8, y1_27 + 1)
      · refine tr_aload_n C (i := 0) dX5_passes_46 rfl rfl ?_
        refine tr_getR C (k := 12) (ci := 5) rfl rfl rfl inT5 rfl (by decide) w960 dX5_passes_47 ?_
        refine tr_iload_n C (i := 1) dX5_passes_50 rfl rfl ?_
        refine tr_iald C (n := 8) rfl dX5_passes_51 (fun h7 => ?_)
        refine tr_iload_n C (i := 2) dX5_passes_52 rfl rfl ?_
        refine tr_cSIP C (av := [.int (rd σ27 7 y1_27), .int z0_27]) (st := [.int y1_27, .ref (ad 8)]) (kX5_beside l g cs ad (rd σ27 7 y1_27) z0_27 σ27) mwX5_beside w1252 ⟨rfl, rfl⟩ ⟨(Nat.le_of_ble_eq_true rfl), (Nat.le_of_ble_eq_true rfl)⟩ rfl rfl (Nat.le_of_ble_eq_true rfl) dX5_passes_53 (fun r4 hr4 => ?_)
        refine tr_iast C (n := 8) (σ' := wr σ27 8 y1_27 r4) rfl dX5_passes_56 rfl (fun h6 => ?_)
        refine tr_stp (fun σw5 eσw5 => ?_)
        refine tr_iinc C (i := 1) (d := 1) (lv' := [some (.ref (ad 0)), some (.int (y1_27 + 1)), some (.int z0_27)]) dX5_passes_57 rfl (by decide) (by decide) rfl ?_
        refine tr_goto C (tgt := 2) dX5_passes_60 (by decide) ?_
        refine tr_mask [true, true, false] rfl ?_
        exact IH2 (σw5, y1_27 + 1)
    refine tr_if_eq C (tgt := 26) dX5_passes_15 (by decide) (fun q13 => ?_) (fun q13 => ?_)
    · refine tr_iconst C (v := 0) dX5_passes_26 (by decide) ?_
      exact B27 σ3 y1_2 0
    · refine tr_aload_n C (i := 0) dX5_passes_18 rfl rfl ?_
      refine tr_iload_n C (i := 1) dX5_passes_19 rfl rfl ?_
      refine tr_cVI C (av := [.int y1_2]) (st := []) (kX5_blownOf l g cs ad y1_2 σ3) mwX5_blownOf w1204 rfl rfl ⟨rfl, rfl⟩ ⟨(Nat.le_of_ble_eq_true rfl), (Nat.le_of_ble_eq_true rfl)⟩ rfl rfl (Nat.le_of_ble_eq_true rfl) dX5_passes_20 (fun r12 σ12 hr12 => ?_)
      refine tr_goto C (tgt := 27) dX5_passes_23 (by decide) ?_
      exact B27 σ12 y1_2 r12
def fX5_week (σ : Mem) : Option (Int32 × Mem) :=
  if (σ.1 0 7) = 999 then (
    some (-3, σ)
  ) else (
    bnd (fX5_passes σ) fun r1 σ1 => (
      some (r1, σ1)
    )
  )
set_option maxHeartbeats 4000000 in
set_option maxRecDepth 100000 in
theorem kX5_week (l : Launch) (g : GG) (cs : CS) (ad : Nat → Nat) (σ : Mem) : CtI l g cs ad (shM g) mX5_week (.code mX5_week cX5_week 1 (some .int)) { frames := 79, cells := 0, slots := 0, locals := 2917 } [.ref (ad 0)] σ (fX5_week σ) := by
  refine ctI_intro (own := "KinInTheHeapModel") (by decide +kernel) rfl [some (.ref (ad 0))] (Nat.le_of_ble_eq_true rfl) rfl ?_
  intro p e s m args below meth c A C hr hlk
  refine tr_aload_n C (i := 0) dX5_week_0 rfl rfl ?_
  refine tr_getI C (k := 7) (ci := 5) rfl rfl rfl inT5 rfl (by decide) w955 dX5_week_1 ?_
  refine tr_sipush C (v := 999) dX5_week_4 (by decide) ?_
  refine tr_icmp_ne C (tgt := 15) dX5_week_7 (by decide) (fun q2 => ?_) (fun q2 => ?_)
  · refine tr_bipush C (v := -3) dX5_week_10 (by decide) ?_
    refine tr_goto C (tgt := 19) dX5_week_12 (by decide) ?_
    exact tr_iret C hr hlk dX5_week_19
  · refine tr_aload_n C (i := 0) dX5_week_15 rfl rfl ?_
    refine tr_cVI C (av := []) (st := []) (kX5_passes l g cs ad σ) mwX5_passes w1263 rfl rfl ⟨rfl, rfl⟩ ⟨(Nat.le_of_ble_eq_true rfl), (Nat.le_of_ble_eq_true rfl)⟩ rfl rfl (Nat.le_of_ble_eq_true rfl) dX5_week_16 (fun r1 σ1 hr1 => ?_)
    exact tr_iret C hr hlk dX5_week_19
def fX5_laysAside_L2 (ih2 : Mem × Int32 → Option (Mem)) : Mem × Int32 → Option (Mem) := fun v => match v with
  | (σ2, y1_2) =>
    if 8 ≤ y1_2 then (
      stp (putI σ2 0 31 (σ2.1 0 7)) fun σw1 => (
        some σw1
      )
    ) else (
      gd (inB y1_2 8) (
        gd (inB y1_2 8) (stp (wr σ2 9 y1_2 (rd σ2 7 y1_2)) fun σw2 => (
          ih2 (σw2, y1_2 + 1)
        ))
      )
    )
def fX5_laysAside (σ : Mem) : Option (Mem) :=
  loopN (fX5_laysAside_L2) 1000 (σ, 0)
set_option maxHeartbeats 4000000 in
set_option maxRecDepth 100000 in
theorem kX5_laysAside (l : Launch) (g : GG) (cs : CS) (ad : Nat → Nat) (σ : Mem) : CtV l g cs ad (shM g) mX5_laysAside (.code mX5_laysAside cX5_laysAside 2 none) { frames := 0, cells := 0, slots := 0, locals := 0 } [.ref (ad 0)] σ (fX5_laysAside σ) := by
  refine ctV_intro (own := "KinInTheHeapModel") (by decide +kernel) rfl [some (.ref (ad 0)), none] (Nat.le_of_ble_eq_true rfl) rfl ?_
  intro p e s m args below meth c A C hr hlk
  refine tr_iconst C (v := 0) dX5_laysAside_0 (by decide) ?_
  refine tr_istore_n C (i := 1) (lv' := [some (.ref (ad 0)), some (.int 0)]) dX5_laysAside_1 rfl (by decide) rfl ?_
  refine tr_loop (b := fX5_laysAside_L2) (sg := fun v => v.1) (lw := fun v => [some (.ref (ad 0)), some (.int v.2)]) (sw := fun v => []) (fun ih2 IH2 v => ?_) 1000 (σ, 0)
  obtain ⟨σ2, y1_2⟩ := v
  refine tr_st (σ' := σ2) (lv' := [some (.ref (ad 0)), some (.int y1_2)]) (st' := []) rfl rfl rfl ?_
  refine tr_iload_n C (i := 1) dX5_laysAside_2 rfl rfl ?_
  refine tr_bipush C (v := 8) dX5_laysAside_3 (by decide) ?_
  refine tr_icmp_ge C (tgt := 26) dX5_laysAside_5 (by decide) (fun q5 => ?_) (fun q5 => ?_)
  · refine tr_aload_n C (i := 0) dX5_laysAside_26 rfl rfl ?_
    refine tr_aload_n C (i := 0) dX5_laysAside_27 rfl rfl ?_
    refine tr_getI C (k := 7) (ci := 5) rfl rfl rfl inT5 rfl (by decide) w955 dX5_laysAside_28 ?_
    refine tr_putI C (k := 31) (ci := 5) (σ' := putI σ2 0 31 (σ2.1 0 7)) rfl rfl rfl inT5 rfl (by decide) tyX5 tyX5_ok nmX5 rfl rfl w979 dX5_laysAside_31 rfl ?_
    refine tr_stp (fun σw1 eσw1 => ?_)
    exact tr_vret C hr hlk dX5_laysAside_34
  · refine tr_aload_n C (i := 0) dX5_laysAside_8 rfl rfl ?_
    refine tr_getR C (k := 30) (ci := 5) rfl rfl rfl inT5 rfl (by decide) w978 dX5_laysAside_9 ?_
    refine tr_iload_n C (i := 1) dX5_laysAside_12 rfl rfl ?_
    refine tr_aload_n C (i := 0) dX5_laysAside_13 rfl rfl ?_
    refine tr_getR C (k := 12) (ci := 5) rfl rfl rfl inT5 rfl (by decide) w960 dX5_laysAside_14 ?_
    refine tr_iload_n C (i := 1) dX5_laysAside_17 rfl rfl ?_
    refine tr_iald C (n := 8) rfl dX5_laysAside_18 (fun h4 => ?_)
    refine tr_iast C (n := 8) (σ' := wr σ2 9 y1_2 (rd σ2 7 y1_2)) rfl dX5_laysAside_19 rfl (fun h3 => ?_)
    refine tr_stp (fun σw2 eσw2 => ?_)
    refine tr_iinc C (i := 1) (d := 1) (lv' := [some (.ref (ad 0)), some (.int (y1_2 + 1))]) dX5_laysAside_20 rfl (by decide) (by decide) rfl ?_
    refine tr_goto C (tgt := 2) dX5_laysAside_23 (by decide) ?_
    exact IH2 (σw2, y1_2 + 1)
def fX5_laysBack_L2 (ih2 : Mem × Int32 → Option (Mem)) : Mem × Int32 → Option (Mem) := fun v => match v with
  | (σ2, y1_2) =>
    if 8 ≤ y1_2 then (
      stp (putI σ2 0 7 (σ2.1 0 31)) fun σw1 => (
        some σw1
      )
    ) else (
      gd (inB y1_2 8) (
        gd (inB y1_2 8) (stp (wr σ2 7 y1_2 (rd σ2 9 y1_2)) fun σw2 => (
          ih2 (σw2, y1_2 + 1)
        ))
      )
    )
def fX5_laysBack (σ : Mem) : Option (Mem) :=
  loopN (fX5_laysBack_L2) 1000 (σ, 0)
set_option maxHeartbeats 4000000 in
set_option maxRecDepth 100000 in
theorem kX5_laysBack (l : Launch) (g : GG) (cs : CS) (ad : Nat → Nat) (σ : Mem) : CtV l g cs ad (shM g) mX5_laysBack (.code mX5_laysBack cX5_laysBack 2 none) { frames := 0, cells := 0, slots := 0, locals := 0 } [.ref (ad 0)] σ (fX5_laysBack σ) := by
  refine ctV_intro (own := "KinInTheHeapModel") (by decide +kernel) rfl [some (.ref (ad 0)), none] (Nat.le_of_ble_eq_true rfl) rfl ?_
  intro p e s m args below meth c A C hr hlk
  refine tr_iconst C (v := 0) dX5_laysBack_0 (by decide) ?_
  refine tr_istore_n C (i := 1) (lv' := [some (.ref (ad 0)), some (.int 0)]) dX5_laysBack_1 rfl (by decide) rfl ?_
  refine tr_loop (b := fX5_laysBack_L2) (sg := fun v => v.1) (lw := fun v => [some (.ref (ad 0)), some (.int v.2)]) (sw := fun v => []) (fun ih2 IH2 v => ?_) 1000 (σ, 0)
  obtain ⟨σ2, y1_2⟩ := v
  refine tr_st (σ' := σ2) (lv' := [some (.ref (ad 0)), some (.int y1_2)]) (st' := []) rfl rfl rfl ?_
  refine tr_iload_n C (i := 1) dX5_laysBack_2 rfl rfl ?_
  refine tr_bipush C (v := 8) dX5_laysBack_3 (by decide) ?_
  refine tr_icmp_ge C (tgt := 26) dX5_laysBack_5 (by decide) (fun q5 => ?_) (fun q5 => ?_)
  · refine tr_aload_n C (i := 0) dX5_laysBack_26 rfl rfl ?_
    refine tr_aload_n C (i := 0) dX5_laysBack_27 rfl rfl ?_
    refine tr_getI C (k := 31) (ci := 5) rfl rfl rfl inT5 rfl (by decide) w979 dX5_laysBack_28 ?_
    refine tr_putI C (k := 7) (ci := 5) (σ' := putI σ2 0 7 (σ2.1 0 31)) rfl rfl rfl inT5 rfl (by decide) tyX5 tyX5_ok nmX5 rfl rfl w955 dX5_laysBack_31 rfl ?_
    refine tr_stp (fun σw1 eσw1 => ?_)
    exact tr_vret C hr hlk dX5_laysBack_34
  · refine tr_aload_n C (i := 0) dX5_laysBack_8 rfl rfl ?_
    refine tr_getR C (k := 12) (ci := 5) rfl rfl rfl inT5 rfl (by decide) w960 dX5_laysBack_9 ?_
    refine tr_iload_n C (i := 1) dX5_laysBack_12 rfl rfl ?_
    refine tr_aload_n C (i := 0) dX5_laysBack_13 rfl rfl ?_
    refine tr_getR C (k := 30) (ci := 5) rfl rfl rfl inT5 rfl (by decide) w978 dX5_laysBack_14 ?_
    refine tr_iload_n C (i := 1) dX5_laysBack_17 rfl rfl ?_
    refine tr_iald C (n := 8) rfl dX5_laysBack_18 (fun h4 => ?_)
    refine tr_iast C (n := 8) (σ' := wr σ2 7 y1_2 (rd σ2 9 y1_2)) rfl dX5_laysBack_19 rfl (fun h3 => ?_)
    refine tr_stp (fun σw2 eσw2 => ?_)
    refine tr_iinc C (i := 1) (d := 1) (lv' := [some (.ref (ad 0)), some (.int (y1_2 + 1))]) dX5_laysBack_20 rfl (by decide) (by decide) rfl ?_
    refine tr_goto C (tgt := 2) dX5_laysBack_23 (by decide) ?_
    exact IH2 (σw2, y1_2 + 1)
def fX5_heaps_L4 (σ : Mem) (ih4 : Int32 × Int32 → Option (Int32)) : Int32 × Int32 → Option (Int32) := fun v => match v with
  | (y1_4, y2_4) =>
    if 36 ≤ y2_4 then (
      some y1_4
    ) else (
      bn1 (fX5_whoIn y2_4 σ) fun r1 => (
        if r1 = 0 then (
          ih4 (y1_4 + 0, y2_4 + 1)
        ) else (
          ih4 (y1_4 + 1, y2_4 + 1)
        )
      )
    )
def fX5_heaps (σ : Mem) : Option (Int32) :=
  loopN (fX5_heaps_L4 σ) 1000 (0, 0)
set_option maxHeartbeats 4000000 in
set_option maxRecDepth 100000 in
theorem kX5_heaps (l : Launch) (g : GG) (cs : CS) (ad : Nat → Nat) (σ : Mem) : CtI l g cs ad (shM g) mX5_heaps (.code mX5_heaps cX5_heaps 3 (some .int)) { frames := 1, cells := 0, slots := 0, locals := 23 } [.ref (ad 0)] σ (pur (fX5_heaps σ) σ) := by
  refine ctIP_intro (own := "KinInTheHeapModel") (by decide +kernel) rfl [some (.ref (ad 0)), none, none] (Nat.le_of_ble_eq_true rfl) rfl ?_
  intro p e s m args below meth c A C hr hlk
  refine tr_iconst C (v := 0) dX5_heaps_0 (by decide) ?_
  refine tr_istore_n C (i := 1) (lv' := [some (.ref (ad 0)), some (.int 0), none]) dX5_heaps_1 rfl (by decide) rfl ?_
  refine tr_iconst C (v := 0) dX5_heaps_2 (by decide) ?_
  refine tr_istore_n C (i := 2) (lv' := [some (.ref (ad 0)), some (.int 0), some (.int 0)]) dX5_heaps_3 rfl (by decide) rfl ?_
  refine tr_loop (b := fX5_heaps_L4 σ) (sg := fun v => σ) (lw := fun v => [some (.ref (ad 0)), some (.int v.1), some (.int v.2)]) (sw := fun v => []) (fun ih4 IH4 v => ?_) 1000 (0, 0)
  obtain ⟨y1_4, y2_4⟩ := v
  refine tr_st (σ' := σ) (lv' := [some (.ref (ad 0)), some (.int y1_4), some (.int y2_4)]) (st' := []) rfl rfl rfl ?_
  refine tr_iload_n C (i := 2) dX5_heaps_4 rfl rfl ?_
  refine tr_bipush C (v := 36) dX5_heaps_5 (by decide) ?_
  refine tr_icmp_ge C (tgt := 32) dX5_heaps_7 (by decide) (fun q3 => ?_) (fun q3 => ?_)
  · refine tr_iload_n C (i := 1) dX5_heaps_32 rfl rfl ?_
    exact tr_iretP C hr hlk dX5_heaps_33
  · refine tr_iload_n C (i := 1) dX5_heaps_10 rfl rfl ?_
    refine tr_aload_n C (i := 0) dX5_heaps_11 rfl rfl ?_
    refine tr_iload_n C (i := 2) dX5_heaps_12 rfl rfl ?_
    refine tr_cVIP C (av := [.int y2_4]) (st := [.int y1_4]) (kX5_whoIn l g cs ad y2_4 σ) mwX5_whoIn w1108 rfl rfl ⟨rfl, rfl⟩ ⟨(Nat.le_of_ble_eq_true rfl), (Nat.le_of_ble_eq_true rfl)⟩ rfl rfl (Nat.le_of_ble_eq_true rfl) dX5_heaps_13 (fun r1 hr1 => ?_)
    refine tr_if_ne C (tgt := 23) dX5_heaps_16 (by decide) (fun q2 => ?_) (fun q2 => ?_)
    · refine tr_iconst C (v := 0) dX5_heaps_19 (by decide) ?_
      refine tr_goto C (tgt := 24) dX5_heaps_20 (by decide) ?_
      refine tr_iadd C dX5_heaps_24 ?_
      refine tr_istore_n C (i := 1) (lv' := [some (.ref (ad 0)), some (.int (y1_4 + 0)), some (.int y2_4)]) dX5_heaps_25 rfl (by decide) rfl ?_
      refine tr_iinc C (i := 2) (d := 1) (lv' := [some (.ref (ad 0)), some (.int (y1_4 + 0)), some (.int (y2_4 + 1))]) dX5_heaps_26 rfl (by decide) (by decide) rfl ?_
      refine tr_goto C (tgt := 4) dX5_heaps_29 (by decide) ?_
      exact IH4 (y1_4 + 0, y2_4 + 1)
    · refine tr_iconst C (v := 1) dX5_heaps_23 (by decide) ?_
      refine tr_iadd C dX5_heaps_24 ?_
      refine tr_istore_n C (i := 1) (lv' := [some (.ref (ad 0)), some (.int (y1_4 + 1)), some (.int y2_4)]) dX5_heaps_25 rfl (by decide) rfl ?_
      refine tr_iinc C (i := 2) (d := 1) (lv' := [some (.ref (ad 0)), some (.int (y1_4 + 1)), some (.int (y2_4 + 1))]) dX5_heaps_26 rfl (by decide) (by decide) rfl ?_
      refine tr_goto C (tgt := 4) dX5_heaps_29 (by decide) ?_
      exact IH4 (y1_4 + 1, y2_4 + 1)
def fX5_greatest_L4 (σ : Mem) (ih4 : Int32 × Int32 → Option (Int32)) : Int32 × Int32 → Option (Int32) := fun v => match v with
  | (y1_4, y2_4) =>
    if 36 ≤ y2_4 then (
      some y1_4
    ) else (
      bn1 (fX5_whoIn y2_4 σ) fun r1 => (
        bn1 (fX5_bitsOf r1 σ) fun r2 => (
          if r2 ≤ y1_4 then (
            ih4 (y1_4, y2_4 + 1)
          ) else (
            bn1 (fX5_whoIn y2_4 σ) fun r3 => (
              bn1 (fX5_bitsOf r3 σ) fun r4 => (
                ih4 (r4, y2_4 + 1)
              )
            )
          )
        )
      )
    )
def fX5_greatest (σ : Mem) : Option (Int32) :=
  loopN (fX5_greatest_L4 σ) 1000 (0, 0)
set_option maxHeartbeats 4000000 in
set_option maxRecDepth 100000 in
theorem kX5_greatest (l : Launch) (g : GG) (cs : CS) (ad : Nat → Nat) (σ : Mem) : CtI l g cs ad (shM g) mX5_greatest (.code mX5_greatest cX5_greatest 3 (some .int)) { frames := 1, cells := 0, slots := 0, locals := 23 } [.ref (ad 0)] σ (pur (fX5_greatest σ) σ) := by
  refine ctIP_intro (own := "KinInTheHeapModel") (by decide +kernel) rfl [some (.ref (ad 0)), none, none] (Nat.le_of_ble_eq_true rfl) rfl ?_
  intro p e s m args below meth c A C hr hlk
  refine tr_iconst C (v := 0) dX5_greatest_0 (by decide) ?_
  refine tr_istore_n C (i := 1) (lv' := [some (.ref (ad 0)), some (.int 0), none]) dX5_greatest_1 rfl (by decide) rfl ?_
  refine tr_iconst C (v := 0) dX5_greatest_2 (by decide) ?_
  refine tr_istore_n C (i := 2) (lv' := [some (.ref (ad 0)), some (.int 0), some (.int 0)]) dX5_greatest_3 rfl (by decide) rfl ?_
  refine tr_loop (b := fX5_greatest_L4 σ) (sg := fun v => σ) (lw := fun v => [some (.ref (ad 0)), some (.int v.1), some (.int v.2)]) (sw := fun v => []) (fun ih4 IH4 v => ?_) 1000 (0, 0)
  obtain ⟨y1_4, y2_4⟩ := v
  refine tr_st (σ' := σ) (lv' := [some (.ref (ad 0)), some (.int y1_4), some (.int y2_4)]) (st' := []) rfl rfl rfl ?_
  refine tr_iload_n C (i := 2) dX5_greatest_4 rfl rfl ?_
  refine tr_bipush C (v := 36) dX5_greatest_5 (by decide) ?_
  refine tr_icmp_ge C (tgt := 41) dX5_greatest_7 (by decide) (fun q6 => ?_) (fun q6 => ?_)
  · refine tr_iload_n C (i := 1) dX5_greatest_41 rfl rfl ?_
    exact tr_iretP C hr hlk dX5_greatest_42
  · refine tr_aload_n C (i := 0) dX5_greatest_10 rfl rfl ?_
    refine tr_iload_n C (i := 2) dX5_greatest_11 rfl rfl ?_
    refine tr_cVIP C (av := [.int y2_4]) (st := []) (kX5_whoIn l g cs ad y2_4 σ) mwX5_whoIn w1108 rfl rfl ⟨rfl, rfl⟩ ⟨(Nat.le_of_ble_eq_true rfl), (Nat.le_of_ble_eq_true rfl)⟩ rfl rfl (Nat.le_of_ble_eq_true rfl) dX5_greatest_12 (fun r1 hr1 => ?_)
    refine tr_cSIP C (av := [.int r1]) (st := []) (kX5_bitsOf l g cs ad r1 σ) mwX5_bitsOf w1120 ⟨rfl, rfl⟩ ⟨(Nat.le_of_ble_eq_true rfl), (Nat.le_of_ble_eq_true rfl)⟩ rfl rfl (Nat.le_of_ble_eq_true rfl) dX5_greatest_15 (fun r2 hr2 => ?_)
    refine tr_iload_n C (i := 1) dX5_greatest_18 rfl rfl ?_
    refine tr_icmp_le C (tgt := 33) dX5_greatest_19 (by decide) (fun q5 => ?_) (fun q5 => ?_)
    · refine tr_iload_n C (i := 1) dX5_greatest_33 rfl rfl ?_
      refine tr_istore_n C (i := 1) (lv' := [some (.ref (ad 0)), some (.int y1_4), some (.int y2_4)]) dX5_greatest_34 rfl (by decide) rfl ?_
      refine tr_iinc C (i := 2) (d := 1) (lv' := [some (.ref (ad 0)), some (.int y1_4), some (.int (y2_4 + 1))]) dX5_greatest_35 rfl (by decide) (by decide) rfl ?_
      refine tr_goto C (tgt := 4) dX5_greatest_38 (by decide) ?_
      exact IH4 (y1_4, y2_4 + 1)
    · refine tr_aload_n C (i := 0) dX5_greatest_22 rfl rfl ?_
      refine tr_iload_n C (i := 2) dX5_greatest_23 rfl rfl ?_
      refine tr_cVIP C (av := [.int y2_4]) (st := []) (kX5_whoIn l g cs ad y2_4 σ) mwX5_whoIn w1108 rfl rfl ⟨rfl, rfl⟩ ⟨(Nat.le_of_ble_eq_true rfl), (Nat.le_of_ble_eq_true rfl)⟩ rfl rfl (Nat.le_of_ble_eq_true rfl) dX5_greatest_24 (fun r3 hr3 => ?_)
      refine tr_cSIP C (av := [.int r3]) (st := []) (kX5_bitsOf l g cs ad r3 σ) mwX5_bitsOf w1120 ⟨rfl, rfl⟩ ⟨(Nat.le_of_ble_eq_true rfl), (Nat.le_of_ble_eq_true rfl)⟩ rfl rfl (Nat.le_of_ble_eq_true rfl) dX5_greatest_27 (fun r4 hr4 => ?_)
      refine tr_goto C (tgt := 34) dX5_greatest_30 (by decide) ?_
      refine tr_istore_n C (i := 1) (lv' := [some (.ref (ad 0)), some (.int r4), some (.int y2_4)]) dX5_greatest_34 rfl (by decide) rfl ?_
      refine tr_iinc C (i := 2) (d := 1) (lv' := [some (.ref (ad 0)), some (.int r4), some (.int (y2_4 + 1))]) dX5_greatest_35 rfl (by decide) (by decide) rfl ?_
      refine tr_goto C (tgt := 4) dX5_greatest_38 (by decide) ?_
      exact IH4 (r4, y2_4 + 1)
def fX5_togethers_L16 (σ : Mem) (ih4 : Int32 × Int32 → Option (Int32)) (ih16 : Int32 × Int32 × Int32 → Option (Int32)) : Int32 × Int32 × Int32 → Option (Int32) := fun v => match v with
  | (y1_16, y2_16, y3_16) =>
    if (σ.1 0 13) ≤ y3_16 then (
      ih4 (y1_16, y2_16 + 1)
    ) else (
      gd (inB y2_16 8) (
        if (rd σ 7 y2_16) = (-1) then (
          ih16 (y1_16 + 0, y2_16, y3_16 + 1)
        ) else (
          gd (inB y2_16 8) (
            gd (inB y3_16 8) (
              if (rd σ 7 y2_16) = (rd σ 7 y3_16) then (
                ih16 (y1_16 + 1, y2_16, y3_16 + 1)
              ) else (
                ih16 (y1_16 + 0, y2_16, y3_16 + 1)
              )
            )
          )
        )
      )
    )
def fX5_togethers_L4 (σ : Mem) (ih4 : Int32 × Int32 → Option (Int32)) : Int32 × Int32 → Option (Int32) := fun v => match v with
  | (y1_4, y2_4) =>
    if (σ.1 0 13) ≤ y2_4 then (
      some y1_4
    ) else (
      loopN (fX5_togethers_L16 σ ih4) 1000 (y1_4, y2_4, y2_4 + 1)
    )
def fX5_togethers (σ : Mem) : Option (Int32) :=
  loopN (fX5_togethers_L4 σ) 1000 (0, 0)
set_option maxHeartbeats 4000000 in
set_option maxRecDepth 100000 in
theorem kX5_togethers (l : Launch) (g : GG) (cs : CS) (ad : Nat → Nat) (σ : Mem) : CtI l g cs ad (shM g) mX5_togethers (.code mX5_togethers cX5_togethers 4 (some .int)) { frames := 0, cells := 0, slots := 0, locals := 0 } [.ref (ad 0)] σ (pur (fX5_togethers σ) σ) := by
  refine ctIP_intro (own := "KinInTheHeapModel") (by decide +kernel) rfl [some (.ref (ad 0)), none, none, none] (Nat.le_of_ble_eq_true rfl) rfl ?_
  intro p e s m args below meth c A C hr hlk
  refine tr_iconst C (v := 0) dX5_togethers_0 (by decide) ?_
  refine tr_istore_n C (i := 1) (lv' := [some (.ref (ad 0)), some (.int 0), none, none]) dX5_togethers_1 rfl (by decide) rfl ?_
  refine tr_iconst C (v := 0) dX5_togethers_2 (by decide) ?_
  refine tr_istore_n C (i := 2) (lv' := [some (.ref (ad 0)), some (.int 0), some (.int 0), none]) dX5_togethers_3 rfl (by decide) rfl ?_
  refine tr_loop (b := fX5_togethers_L4 σ) (sg := fun v => σ) (lw := fun v => [some (.ref (ad 0)), some (.int v.1), some (.int v.2), none]) (sw := fun v => []) (fun ih4 IH4 v => ?_) 1000 (0, 0)
  obtain ⟨y1_4, y2_4⟩ := v
  refine tr_st (σ' := σ) (lv' := [some (.ref (ad 0)), some (.int y1_4), some (.int y2_4), none]) (st' := []) rfl rfl rfl ?_
  refine tr_iload_n C (i := 2) dX5_togethers_4 rfl rfl ?_
  refine tr_aload_n C (i := 0) dX5_togethers_5 rfl rfl ?_
  refine tr_getI C (k := 13) (ci := 5) rfl rfl rfl inT5 rfl (by decide) w961 dX5_togethers_6 ?_
  refine tr_icmp_ge C (tgt := 69) dX5_togethers_9 (by decide) (fun q7 => ?_) (fun q7 => ?_)
  · refine tr_iload_n C (i := 1) dX5_togethers_69 rfl rfl ?_
    exact tr_iretP C hr hlk dX5_togethers_70
  · refine tr_iload_n C (i := 2) dX5_togethers_12 rfl rfl ?_
    refine tr_iconst C (v := 1) dX5_togethers_13 (by decide) ?_
    refine tr_iadd C dX5_togethers_14 ?_
    refine tr_istore_n C (i := 3) (lv' := [some (.ref (ad 0)), some (.int y1_4), some (.int y2_4), some (.int (y2_4 + 1))]) dX5_togethers_15 rfl (by decide) rfl ?_
    refine tr_loop (b := fX5_togethers_L16 σ ih4) (sg := fun v => σ) (lw := fun v => [some (.ref (ad 0)), some (.int v.1), some (.int v.2.1), some (.int v.2.2)]) (sw := fun v => []) (fun ih16 IH16 v => ?_) 1000 (y1_4, y2_4, y2_4 + 1)
    obtain ⟨y1_16, y2_16, y3_16⟩ := v
    refine tr_st (σ' := σ) (lv' := [some (.ref (ad 0)), some (.int y1_16), some (.int y2_16), some (.int y3_16)]) (st' := []) rfl rfl rfl ?_
    refine tr_iload_n C (i := 3) dX5_togethers_16 rfl rfl ?_
    refine tr_aload_n C (i := 0) dX5_togethers_17 rfl rfl ?_
    refine tr_getI C (k := 13) (ci := 5) rfl rfl rfl inT5 rfl (by decide) w961 dX5_togethers_18 ?_
    refine tr_icmp_ge C (tgt := 63) dX5_togethers_21 (by decide) (fun q6 => ?_) (fun q6 => ?_)
    · refine tr_iinc C (i := 2) (d := 1) (lv' := [some (.ref (ad 0)), some (.int y1_16), some (.int (y2_16 + 1)), some (.int y3_16)]) dX5_togethers_63 rfl (by decide) (by decide) rfl ?_
      refine tr_goto C (tgt := 4) dX5_togethers_66 (by decide) ?_
      refine tr_mask [true, true, true, false] rfl ?_
      exact IH4 (y1_16, y2_16 + 1)
    · refine tr_iload_n C (i := 1) dX5_togethers_24 rfl rfl ?_
      refine tr_aload_n C (i := 0) dX5_togethers_25 rfl rfl ?_
      refine tr_getR C (k := 12) (ci := 5) rfl rfl rfl inT5 rfl (by decide) w960 dX5_togethers_26 ?_
      refine tr_iload_n C (i := 2) dX5_togethers_29 rfl rfl ?_
      refine tr_iald C (n := 8) rfl dX5_togethers_30 (fun h5 => ?_)
      refine tr_iconst C (v := -1) dX5_togethers_31 (by decide) ?_
      refine tr_icmp_eq C (tgt := 54) dX5_togethers_32 (by decide) (fun q4 => ?_) (fun q4 => ?_)
      · refine tr_iconst C (v := 0) dX5_togethers_54 (by decide) ?_
        refine tr_iadd C dX5_togethers_55 ?_
        refine tr_istore_n C (i := 1) (lv' := [some (.ref (ad 0)), some (.int (y1_16 + 0)), some (.int y2_16), some (.int y3_16)]) dX5_togethers_56 rfl (by decide) rfl ?_
        refine tr_iinc C (i := 3) (d := 1) (lv' := [some (.ref (ad 0)), some (.int (y1_16 + 0)), some (.int y2_16), some (.int (y3_16 + 1))]) dX5_togethers_57 rfl (by decide) (by decide) rfl ?_
        refine tr_goto C (tgt := 16) dX5_togethers_60 (by decide) ?_
        exact IH16 (y1_16 + 0, y2_16, y3_16 + 1)
      · refine tr_aload_n C (i := 0) dX5_togethers_35 rfl rfl ?_
        refine tr_getR C (k := 12) (ci := 5) rfl rfl rfl inT5 rfl (by decide) w960 dX5_togethers_36 ?_
        refine tr_iload_n C (i := 2) dX5_togethers_39 rfl rfl ?_
        refine tr_iald C (n := 8) rfl dX5_togethers_40 (fun h3 => ?_)
        refine tr_aload_n C (i := 0) dX5_togethers_41 rfl rfl ?_
        refine tr_getR C (k := 12) (ci := 5) rfl rfl rfl inT5 rfl (by decide) w960 dX5_togethers_42 ?_
        refine tr_iload_n C (i := 3) dX5_togethers_45 rfl rfl ?_
        refine tr_iald C (n := 8) rfl dX5_togethers_46 (fun h2 => ?_)
        refine tr_icmp_ne C (tgt := 54) dX5_togethers_47 (by decide) (fun q1 => ?_) (fun q1 => ?_)
        · refine tr_iconst C (v := 1) dX5_togethers_50 (by decide) ?_
          refine tr_goto C (tgt := 55) dX5_togethers_51 (by decide) ?_
          refine tr_iadd C dX5_togethers_55 ?_
          refine tr_istore_n C (i := 1) (lv' := [some (.ref (ad 0)), some (.int (y1_16 + 1)), some (.int y2_16), some (.int y3_16)]) dX5_togethers_56 rfl (by decide) rfl ?_
          refine tr_iinc C (i := 3) (d := 1) (lv' := [some (.ref (ad 0)), some (.int (y1_16 + 1)), some (.int y2_16), some (.int (y3_16 + 1))]) dX5_togethers_57 rfl (by decide) (by decide) rfl ?_
          refine tr_goto C (tgt := 16) dX5_togethers_60 (by decide) ?_
          exact IH16 (y1_16 + 1, y2_16, y3_16 + 1)
        · refine tr_iconst C (v := 0) dX5_togethers_54 (by decide) ?_
          refine tr_iadd C dX5_togethers_55 ?_
          refine tr_istore_n C (i := 1) (lv' := [some (.ref (ad 0)), some (.int (y1_16 + 0)), some (.int y2_16), some (.int y3_16)]) dX5_togethers_56 rfl (by decide) rfl ?_
          refine tr_iinc C (i := 3) (d := 1) (lv' := [some (.ref (ad 0)), some (.int (y1_16 + 0)), some (.int y2_16), some (.int (y3_16 + 1))]) dX5_togethers_57 rfl (by decide) (by decide) rfl ?_
          refine tr_goto C (tgt := 16) dX5_togethers_60 (by decide) ?_
          exact IH16 (y1_16 + 0, y2_16, y3_16 + 1)
def fX5_apart (a1 : Int32) (a2 : Int32) (σ : Mem) : Option (Int32) :=
  if a2 ≤ a1 then (
    some (a1 - a2)
  ) else (
    some (a2 - a1)
  )
set_option maxHeartbeats 4000000 in
set_option maxRecDepth 100000 in
theorem kX5_apart (l : Launch) (g : GG) (cs : CS) (ad : Nat → Nat) (a1 : Int32) (a2 : Int32) (σ : Mem) : CtI l g cs ad (shM g) mX5_apart (.code mX5_apart cX5_apart 2 (some .int)) { frames := 0, cells := 0, slots := 0, locals := 0 } [.int a1, .int a2] σ (pur (fX5_apart a1 a2 σ) σ) := by
  refine ctIP_intro (own := "KinInTheHeapModel") (by decide +kernel) rfl [some (.int a1), some (.int a2)] (Nat.le_of_ble_eq_true rfl) rfl ?_
  intro p e s m args below meth c A C hr hlk
  refine tr_iload_n C (i := 0) dX5_apart_0 rfl rfl ?_
  refine tr_iload_n C (i := 1) dX5_apart_1 rfl rfl ?_
  refine tr_icmp_ge C (tgt := 11) dX5_apart_2 (by decide) (fun q1 => ?_) (fun q1 => ?_)
  · refine tr_iload_n C (i := 0) dX5_apart_11 rfl rfl ?_
    refine tr_iload_n C (i := 1) dX5_apart_12 rfl rfl ?_
    refine tr_isub C dX5_apart_13 ?_
    exact tr_iretP C hr hlk dX5_apart_14
  · refine tr_iload_n C (i := 1) dX5_apart_5 rfl rfl ?_
    refine tr_iload_n C (i := 0) dX5_apart_6 rfl rfl ?_
    refine tr_isub C dX5_apart_7 ?_
    refine tr_goto C (tgt := 14) dX5_apart_8 (by decide) ?_
    exact tr_iretP C hr hlk dX5_apart_14
def fX5_spread_b49 (σ : Mem) (ih4 : Int32 × Int32 → Option (Int32)) (ih16 : Int32 × Int32 × Int32 → Option (Int32)) (y1_49 : Int32) (y2_49 : Int32) (y3_49 : Int32) (z0_49 : Int32) : Option (Int32) :=
  if z0_49 = 0 then (
    ih16 (y1_49 + 0, y2_49, y3_49 + 1)
  ) else (
    gd (inB y2_49 8) (
      gd (inB y3_49 8) (
        bn1 (fX5_apart ((rd σ 7 y2_49) / 6) ((rd σ 7 y3_49) / 6) σ) fun r1 => (
          gd (inB y2_49 8) (
            gd (inB y3_49 8) (
              bn1 (fX5_apart ((rd σ 7 y2_49) - (rd σ 7 y2_49) / 6 * 6) ((rd σ 7 y3_49) - (rd σ 7 y3_49) / 6 * 6) σ) fun r2 => (
                ih16 (y1_49 + (r1 + r2), y2_49, y3_49 + 1)
              )
            )
          )
        )
      )
    )
  )
def fX5_spread_b48 (σ : Mem) (ih4 : Int32 × Int32 → Option (Int32)) (ih16 : Int32 × Int32 × Int32 → Option (Int32)) (y1_48 : Int32) (y2_48 : Int32) (y3_48 : Int32) : Option (Int32) :=
  fX5_spread_b49 σ ih4 ih16 y1_48 y2_48 y3_48 0
def fX5_spread_L16 (σ : Mem) (ih4 : Int32 × Int32 → Option (Int32)) (ih16 : Int32 × Int32 × Int32 → Option (Int32)) : Int32 × Int32 × Int32 → Option (Int32) := fun v => match v with
  | (y1_16, y2_16, y3_16) =>
    if (σ.1 0 13) ≤ y3_16 then (
      ih4 (y1_16, y2_16 + 1)
    ) else (
      gd (inB y2_16 8) (
        if (rd σ 7 y2_16) = (-1) then (
          fX5_spread_b48 σ ih4 ih16 y1_16 y2_16 y3_16
        ) else (
          gd (inB y3_16 8) (
            if (rd σ 7 y3_16) = (-1) then (
              fX5_spread_b48 σ ih4 ih16 y1_16 y2_16 y3_16
            ) else (
              fX5_spread_b49 σ ih4 ih16 y1_16 y2_16 y3_16 1
            )
          )
        )
      )
    )
def fX5_spread_L4 (σ : Mem) (ih4 : Int32 × Int32 → Option (Int32)) : Int32 × Int32 → Option (Int32) := fun v => match v with
  | (y1_4, y2_4) =>
    if (σ.1 0 13) ≤ y2_4 then (
      some y1_4
    ) else (
      loopN (fX5_spread_L16 σ ih4) 1000 (y1_4, y2_4, y2_4 + 1)
    )
def fX5_spread (σ : Mem) : Option (Int32) :=
  loopN (fX5_spread_L4 σ) 1000 (0, 0)
set_option maxHeartbeats 4000000 in
set_option maxRecDepth 100000 in
theorem kX5_spread (l : Launch) (g : GG) (cs : CS) (ad : Nat → Nat) (σ : Mem) : CtI l g cs ad (shM g) mX5_spread (.code mX5_spread cX5_spread 5 (some .int)) { frames := 1, cells := 0, slots := 0, locals := 21 } [.ref (ad 0)] σ (pur (fX5_spread σ) σ) := by
  refine ctIP_intro (own := "KinInTheHeapModel") (by decide +kernel) rfl [some (.ref (ad 0)), none, none, none, none] (Nat.le_of_ble_eq_true rfl) rfl ?_
  intro p e s m args below meth c A C hr hlk
  refine tr_iconst C (v := 0) dX5_spread_0 (by decide) ?_
  refine tr_istore_n C (i := 1) (lv' := [some (.ref (ad 0)), some (.int 0), none, none, none]) dX5_spread_1 rfl (by decide) rfl ?_
  refine tr_iconst C (v := 0) dX5_spread_2 (by decide) ?_
  refine tr_istore_n C (i := 2) (lv' := [some (.ref (ad 0)), some (.int 0), some (.int 0), none, none]) dX5_spread_3 rfl (by decide) rfl ?_
  refine tr_loop (b := fX5_spread_L4 σ) (sg := fun v => σ) (lw := fun v => [some (.ref (ad 0)), some (.int v.1), some (.int v.2), none, none]) (sw := fun v => []) (fun ih4 IH4 v => ?_) 1000 (0, 0)
  obtain ⟨y1_4, y2_4⟩ := v
  refine tr_st (σ' := σ) (lv' := [some (.ref (ad 0)), some (.int y1_4), some (.int y2_4), none, none]) (st' := []) rfl rfl rfl ?_
  refine tr_iload_n C (i := 2) dX5_spread_4 rfl rfl ?_
  refine tr_aload_n C (i := 0) dX5_spread_5 rfl rfl ?_
  refine tr_getI C (k := 13) (ci := 5) rfl rfl rfl inT5 rfl (by decide) w961 dX5_spread_6 ?_
  refine tr_icmp_ge C (tgt := 118) dX5_spread_9 (by decide) (fun q13 => ?_) (fun q13 => ?_)
  · refine tr_iload_n C (i := 1) dX5_spread_118 rfl rfl ?_
    exact tr_iretP C hr hlk dX5_spread_119
  · refine tr_iload_n C (i := 2) dX5_spread_12 rfl rfl ?_
    refine tr_iconst C (v := 1) dX5_spread_13 (by decide) ?_
    refine tr_iadd C dX5_spread_14 ?_
    refine tr_istore_n C (i := 3) (lv' := [some (.ref (ad 0)), some (.int y1_4), some (.int y2_4), some (.int (y2_4 + 1)), none]) dX5_spread_15 rfl (by decide) rfl ?_
    refine tr_loop (b := fX5_spread_L16 σ ih4) (sg := fun v => σ) (lw := fun v => [some (.ref (ad 0)), some (.int v.1), some (.int v.2.1), some (.int v.2.2), none]) (sw := fun v => []) (fun ih16 IH16 v => ?_) 1000 (y1_4, y2_4, y2_4 + 1)
    obtain ⟨y1_16, y2_16, y3_16⟩ := v
    refine tr_st (σ' := σ) (lv' := [some (.ref (ad 0)), some (.int y1_16), some (.int y2_16), some (.int y3_16), none]) (st' := []) rfl rfl rfl ?_
    refine tr_iload_n C (i := 3) dX5_spread_16 rfl rfl ?_
    refine tr_aload_n C (i := 0) dX5_spread_17 rfl rfl ?_
    refine tr_getI C (k := 13) (ci := 5) rfl rfl rfl inT5 rfl (by decide) w961 dX5_spread_18 ?_
    refine tr_icmp_ge C (tgt := 112) dX5_spread_21 (by decide) (fun q12 => ?_) (fun q12 => ?_)
    · refine tr_iinc C (i := 2) (d := 1) (lv' := [some (.ref (ad 0)), some (.int y1_16), some (.int (y2_16 + 1)), some (.int y3_16), none]) dX5_spread_112 rfl (by decide) (by decide) rfl ?_
      refine tr_goto C (tgt := 4) dX5_spread_115 (by decide) ?_
      refine tr_mask [true, true, true, false, false] rfl ?_
      exact IH4 (y1_16, y2_16 + 1)
    · refine tr_aload_n C (i := 0) dX5_spread_24 rfl rfl ?_
      refine tr_getR C (k := 12) (ci := 5) rfl rfl rfl inT5 rfl (by decide) w960 dX5_spread_25 ?_
      refine tr_iload_n C (i := 2) dX5_spread_28 rfl rfl ?_
      refine tr_iald C (n := 8) rfl dX5_spread_29 (fun h11 => ?_)
      refine tr_iconst C (v := -1) dX5_spread_30 (by decide) ?_
      have B49 : ∀ (y1_49 : Int32) (y2_49 : Int32) (y3_49 : Int32) (z0_49 : Int32), Tr p l e { frames := 1, cells := 0, slots := 0, locals := 21 } s m args below meth c g ad (shM g) A 5 (QP g ad (shM g) A below args s σ) (fX5_spread_b49 σ ih4 ih16 y1_49 y2_49 y3_49 z0_49) σ 49 [some (.ref (ad 0)), some (.int y1_49), some (.int y2_49), some (.int y3_49), none] [.int z0_49] := by
        intro y1_49 y2_49 y3_49 z0_49
        refine tr_istore C (i := 4) (lv' := [some (.ref (ad 0)), some (.int y1_49), some (.int y2_49), some (.int y3_49), some (.int z0_49)]) dX5_spread_49 (by decide) rfl ?_
        refine tr_iload_n C (i := 1) dX5_spread_51 rfl rfl ?_
        refine tr_iload C (i := 4) dX5_spread_52 rfl ?_
        refine tr_if_eq C (tgt := 103) dX5_spread_54 (by decide) (fun q7 => ?_) (fun q7 => ?_)
        · refine tr_iconst C (v := 0) dX5_spread_103 (by decide) ?_
          refine tr_iadd C dX5_spread_104 ?_
          refine tr_istore_n C (i := 1) (lv' := [some (.ref (ad 0)), some (.int (y1_49 + 0)), some (.int y2_49), some (.int y3_49), some (.int z0_49)]) dX5_spread_105 rfl (by decide) rfl ?_
          refine tr_iinc C (i := 3) (d := 1) (lv' := [some (.ref (ad 0)), some (.int (y1_49 + 0)), some (.int y2_49), some (.int (y3_49 + 1)), some (.int z0_49)]) dX5_spread_106 rfl (by decide) (by decide) rfl ?_
          refine tr_goto C (tgt := 16) dX5_spread_109 (by decide) ?_
          refine tr_mask [true, true, true, true, false] rfl ?_
          exact IH16 (y1_49 + 0, y2_49, y3_49 + 1)
        · refine tr_aload_n C (i := 0) dX5_spread_57 rfl rfl ?_
          refine tr_getR C (k := 12) (ci := 5) rfl rfl rfl inT5 rfl (by decide) w960 dX5_spread_58 ?_
          refine tr_iload_n C (i := 2) dX5_spread_61 rfl rfl ?_
          refine tr_iald C (n := 8) rfl dX5_spread_62 (fun h6 => ?_)
          refine tr_bipush C (v := 6) dX5_spread_63 (by decide) ?_
          refine tr_idivK C dX5_spread_65 (by decide) ?_
          refine tr_aload_n C (i := 0) dX5_spread_66 rfl rfl ?_
          refine tr_getR C (k := 12) (ci := 5) rfl rfl rfl inT5 rfl (by decide) w960 dX5_spread_67 ?_
          refine tr_iload_n C (i := 3) dX5_spread_70 rfl rfl ?_
          refine tr_iald C (n := 8) rfl dX5_spread_71 (fun h5 => ?_)
          refine tr_bipush C (v := 6) dX5_spread_72 (by decide) ?_
          refine tr_idivK C dX5_spread_74 (by decide) ?_
          refine tr_cSIP C (av := [.int ((rd σ 7 y2_49) / 6), .int ((rd σ 7 y3_49) / 6)]) (st := [.int y1_49]) (kX5_apart l g cs ad ((rd σ 7 y2_49) / 6) ((rd σ 7 y3_49) / 6) σ) mwX5_apart w1300 ⟨rfl, rfl⟩ ⟨(Nat.le_of_ble_eq_true rfl), (Nat.le_of_ble_eq_true rfl)⟩ rfl rfl (Nat.le_of_ble_eq_true rfl) dX5_spread_75 (fun r1 hr1 => ?_)
          refine tr_aload_n C (i := 0) dX5_spread_78 rfl rfl ?_
          refine tr_getR C (k := 12) (ci := 5) rfl rfl rfl inT5 rfl (by decide) w960 dX5_spread_79 ?_
          refine tr_iload_n C (i := 2) dX5_spread_82 rfl rfl ?_
          refine tr_iald C (n := 8) rfl dX5_spread_83 (fun h4 => ?_)
          refine tr_bipush C (v := 6) dX5_spread_84 (by decide) ?_
          refine tr_iremK C dX5_spread_86 (by decide) ?_
          refine tr_aload_n C (i := 0) dX5_spread_87 rfl rfl ?_
          refine tr_getR C (k := 12) (ci := 5) rfl rfl rfl inT5 rfl (by decide) w960 dX5_spread_88 ?_
          refine tr_iload_n C (i := 3) dX5_spread_91 rfl rfl ?_
          refine tr_iald C (n := 8) rfl dX5_spread_92 (fun h3 => ?_)
          refine tr_bipush C (v := 6) dX5_spread_93 (by decide) ?_
          refine tr_iremK C dX5_spread_95 (by decide) ?_
          refine tr_cSIP C (av := [.int ((rd σ 7 y2_49) - (rd σ 7 y2_49) / 6 * 6), .int ((rd σ 7 y3_49) - (rd σ 7 y3_49) / 6 * 6)]) (st := [.int r1, .int y1_49]) (kX5_apart l g cs ad ((rd σ 7 y2_49) - (rd σ 7 y2_49) / 6 * 6) ((rd σ 7 y3_49) - (rd σ 7 y3_49) / 6 * 6) σ) mwX5_apart w1300 ⟨rfl, rfl⟩ ⟨(Nat.le_of_ble_eq_true rfl), (Nat.le_of_ble_eq_true rfl)⟩ rfl rfl (Nat.le_of_ble_eq_true rfl) dX5_spread_96 (fun r2 hr2 => ?_)
          refine tr_iadd C dX5_spread_99 ?_
          refine tr_goto C (tgt := 104) dX5_spread_100 (by decide) ?_
          refine tr_iadd C dX5_spread_104 ?_
          refine tr_istore_n C (i := 1) (lv' := [some (.ref (ad 0)), some (.int (y1_49 + (r1 + r2))), some (.int y2_49), some (.int y3_49), some (.int z0_49)]) dX5_spread_105 rfl (by decide) rfl ?_
          refine tr_iinc C (i := 3) (d := 1) (lv' := [some (.ref (ad 0)), some (.int (y1_49 + (r1 + r2))), some (.int y2_49), some (.int (y3_49 + 1)), some (.int z0_49)]) dX5_spread_106 rfl (by decide) (by decide) rfl ?_
          refine tr_goto C (tgt := 16) dX5_spread_109 (by decide) ?_
          refine tr_mask [true, true, true, true, false] rfl ?_
          exact IH16 (y1_49 + (r1 + r2), y2_49, y3_49 + 1)
      have B48 : ∀ (y1_48 : Int32) (y2_48 : Int32) (y3_48 : Int32), Tr p l e { frames := 1, cells := 0, slots := 0, locals := 21 } s m args below meth c g ad (shM g) A 5 (QP g ad (shM g) A below args s σ) (fX5_spread_b48 σ ih4 ih16 y1_48 y2_48 y3_48) σ 48 [some (.ref (ad 0)), some (.int y1_48), some (.int y2_48), some (.int y3_48), none] [] := by
        intro y1_48 y2_48 y3_48
        refine tr_iconst C (v := 0) dX5_spread_48 (by decide) ?_
        exact B49 y1_48 y2_48 y3_48 0
      refine tr_icmp_eq C (tgt := 48) dX5_spread_31 (by decide) (fun q10 => ?_) (fun q10 => ?_)
      · exact B48 y1_16 y2_16 y3_16
      · refine tr_aload_n C (i := 0) dX5_spread_34 rfl rfl ?_
        refine tr_getR C (k := 12) (ci := 5) rfl rfl rfl inT5 rfl (by decide) w960 dX5_spread_35 ?_
        refine tr_iload_n C (i := 3) dX5_spread_38 rfl rfl ?_
        refine tr_iald C (n := 8) rfl dX5_spread_39 (fun h9 => ?_)
        refine tr_iconst C (v := -1) dX5_spread_40 (by decide) ?_
        refine tr_icmp_eq C (tgt := 48) dX5_spread_41 (by decide) (fun q8 => ?_) (fun q8 => ?_)
        · exact B48 y1_16 y2_16 y3_16
        · refine tr_iconst C (v := 1) dX5_spread_44 (by decide) ?_
          refine tr_goto C (tgt := 49) dX5_spread_45 (by decide) ?_
          exact B49 y1_16 y2_16 y3_16 1
def fX5_outMany (σ : Mem) : Option (Int32) :=
  bn1 (fX5_whoIn (-1) σ) fun r1 => (
    bn1 (fX5_bitsOf r1 σ) fun r2 => (
      some r2
    )
  )
set_option maxHeartbeats 4000000 in
set_option maxRecDepth 100000 in
theorem kX5_outMany (l : Launch) (g : GG) (cs : CS) (ad : Nat → Nat) (σ : Mem) : CtI l g cs ad (shM g) mX5_outMany (.code mX5_outMany cX5_outMany 1 (some .int)) { frames := 1, cells := 0, slots := 0, locals := 23 } [.ref (ad 0)] σ (pur (fX5_outMany σ) σ) := by
  refine ctIP_intro (own := "KinInTheHeapModel") (by decide +kernel) rfl [some (.ref (ad 0))] (Nat.le_of_ble_eq_true rfl) rfl ?_
  intro p e s m args below meth c A C hr hlk
  refine tr_aload_n C (i := 0) dX5_outMany_0 rfl rfl ?_
  refine tr_iconst C (v := -1) dX5_outMany_1 (by decide) ?_
  refine tr_cVIP C (av := [.int (-1)]) (st := []) (kX5_whoIn l g cs ad (-1) σ) mwX5_whoIn w1108 rfl rfl ⟨rfl, rfl⟩ ⟨(Nat.le_of_ble_eq_true rfl), (Nat.le_of_ble_eq_true rfl)⟩ rfl rfl (Nat.le_of_ble_eq_true rfl) dX5_outMany_2 (fun r1 hr1 => ?_)
  refine tr_cSIP C (av := [.int r1]) (st := []) (kX5_bitsOf l g cs ad r1 σ) mwX5_bitsOf w1120 ⟨rfl, rfl⟩ ⟨(Nat.le_of_ble_eq_true rfl), (Nat.le_of_ble_eq_true rfl)⟩ rfl rfl (Nat.le_of_ble_eq_true rfl) dX5_outMany_5 (fun r2 hr2 => ?_)
  exact tr_iretP C hr hlk dX5_outMany_8
def fX5_sweepBad_L14 (a1 : Int32) (σ : Mem) (ih14 : Int32 → Option (Int32)) : Int32 → Option (Int32) := fun v => match v with
  | y2_14 =>
    gd (inB a1 4) (
      if (rd σ 15 a1) ≤ y2_14 then (
        some 0
      ) else (
        gd (inB ((40 * a1) + y2_14) 160) (
          bn1 (fX5_isStroke (rd σ 16 ((40 * a1) + y2_14)) σ) fun r1 => (
            if r1 = 0 then (
              some (-2)
            ) else (
              ih14 (y2_14 + 1)
            )
          )
        )
      )
    )
def fX5_sweepBad (a1 : Int32) (σ : Mem) : Option (Int32) :=
  gd (inB a1 4) (
    if (rd σ 13 a1) = 0 then (
      some (-11)
    ) else (
      loopN (fX5_sweepBad_L14 a1 σ) 1000 0
    )
  )
set_option maxHeartbeats 4000000 in
set_option maxRecDepth 100000 in
theorem kX5_sweepBad (l : Launch) (g : GG) (cs : CS) (ad : Nat → Nat) (a1 : Int32) (σ : Mem) : CtI l g cs ad (shM g) mX5_sweepBad (.code mX5_sweepBad cX5_sweepBad 3 (some .int)) { frames := 2, cells := 0, slots := 0, locals := 45 } [.ref (ad 0), .int a1] σ (pur (fX5_sweepBad a1 σ) σ) := by
  refine ctIP_intro (own := "KinInTheHeapModel") (by decide +kernel) rfl [some (.ref (ad 0)), some (.int a1), none] (Nat.le_of_ble_eq_true rfl) rfl ?_
  intro p e s m args below meth c A C hr hlk
  refine tr_aload_n C (i := 0) dX5_sweepBad_0 rfl rfl ?_
  refine tr_getR C (k := 39) (ci := 5) rfl rfl rfl inT5 rfl (by decide) w987 dX5_sweepBad_1 ?_
  refine tr_iload_n C (i := 1) dX5_sweepBad_4 rfl rfl ?_
  refine tr_zald C (n := 4) rfl dX5_sweepBad_5 (fun h7 => ?_)
  refine tr_if_ne C (tgt := 12) dX5_sweepBad_6 (by decide) (fun q6 => ?_) (fun q6 => ?_)
  · refine tr_bipush C (v := -11) dX5_sweepBad_9 (by decide) ?_
    exact tr_iretP C hr hlk dX5_sweepBad_11
  · refine tr_iconst C (v := 0) dX5_sweepBad_12 (by decide) ?_
    refine tr_istore_n C (i := 2) (lv' := [some (.ref (ad 0)), some (.int a1), some (.int 0)]) dX5_sweepBad_13 rfl (by decide) rfl ?_
    refine tr_loop (b := fX5_sweepBad_L14 a1 σ) (sg := fun v => σ) (lw := fun v => [some (.ref (ad 0)), some (.int a1), some (.int v)]) (sw := fun v => []) (fun ih14 IH14 v => ?_) 1000 0
    obtain ⟨y2_14, rfl⟩ : ∃ z, z = v := ⟨v, rfl⟩
    refine tr_st (σ' := σ) (lv' := [some (.ref (ad 0)), some (.int a1), some (.int y2_14)]) (st' := []) rfl rfl rfl ?_
    refine tr_iload_n C (i := 2) dX5_sweepBad_14 rfl rfl ?_
    refine tr_aload_n C (i := 0) dX5_sweepBad_15 rfl rfl ?_
    refine tr_getR C (k := 41) (ci := 5) rfl rfl rfl inT5 rfl (by decide) w989 dX5_sweepBad_16 ?_
    refine tr_iload_n C (i := 1) dX5_sweepBad_19 rfl rfl ?_
    refine tr_iald C (n := 4) rfl dX5_sweepBad_20 (fun h5 => ?_)
    refine tr_icmp_ge C (tgt := 50) dX5_sweepBad_21 (by decide) (fun q4 => ?_) (fun q4 => ?_)
    · refine tr_iconst C (v := 0) dX5_sweepBad_50 (by decide) ?_
      exact tr_iretP C hr hlk dX5_sweepBad_51
    · refine tr_aload_n C (i := 0) dX5_sweepBad_24 rfl rfl ?_
      refine tr_getR C (k := 42) (ci := 5) rfl rfl rfl inT5 rfl (by decide) w990 dX5_sweepBad_25 ?_
      refine tr_bipush C (v := 40) dX5_sweepBad_28 (by decide) ?_
      refine tr_iload_n C (i := 1) dX5_sweepBad_30 rfl rfl ?_
      refine tr_imul C dX5_sweepBad_31 ?_
      refine tr_iload_n C (i := 2) dX5_sweepBad_32 rfl rfl ?_
      refine tr_iadd C dX5_sweepBad_33 ?_
      refine tr_iald C (n := 160) rfl dX5_sweepBad_34 (fun h3 => ?_)
      refine tr_cSIP C (av := [.int (rd σ 16 ((40 * a1) + y2_14))]) (st := []) (kX5_isStroke l g cs ad (rd σ 16 ((40 * a1) + y2_14)) σ) mwX5_isStroke w1236 ⟨rfl, rfl⟩ ⟨(Nat.le_of_ble_eq_true rfl), (Nat.le_of_ble_eq_true rfl)⟩ rfl rfl (Nat.le_of_ble_eq_true rfl) dX5_sweepBad_35 (fun r1 hr1 => ?_)
      refine tr_if_ne C (tgt := 44) dX5_sweepBad_38 (by decide) (fun q2 => ?_) (fun q2 => ?_)
      · refine tr_bipush C (v := -2) dX5_sweepBad_41 (by decide) ?_
        exact tr_iretP C hr hlk dX5_sweepBad_43
      · refine tr_iinc C (i := 2) (d := 1) (lv' := [some (.ref (ad 0)), some (.int a1), some (.int (y2_14 + 1))]) dX5_sweepBad_44 rfl (by decide) (by decide) rfl ?_
        refine tr_goto C (tgt := 14) dX5_sweepBad_47 (by decide) ?_
        exact IH14 (y2_14 + 1)
def fX5_sweptBy_L4 (a1 : Int32) (ih4 : Mem × Int32 × Int32 → Option (Int32 × Mem)) : Mem × Int32 × Int32 → Option (Int32 × Mem) := fun v => match v with
  | (σ4, y2_4, y3_4) =>
    gd (inB a1 4) (
      if (rd σ4 15 a1) ≤ y3_4 then (
        some (y2_4, σ4)
      ) else (
        gd (inB ((40 * a1) + y3_4) 160) (
          bnd (fX5_strokes (rd σ4 16 ((40 * a1) + y3_4)) σ4) fun r1 σ1 => (
            ih4 (σ1, y2_4 + r1, y3_4 + 1)
          )
        )
      )
    )
def fX5_sweptBy (a1 : Int32) (σ : Mem) : Option (Int32 × Mem) :=
  loopN (fX5_sweptBy_L4 a1) 1000 (σ, 0, 0)
set_option maxHeartbeats 4000000 in
set_option maxRecDepth 100000 in
theorem kX5_sweptBy (l : Launch) (g : GG) (cs : CS) (ad : Nat → Nat) (a1 : Int32) (σ : Mem) : CtI l g cs ad (shM g) mX5_sweptBy (.code mX5_sweptBy cX5_sweptBy 4 (some .int)) { frames := 79, cells := 0, slots := 0, locals := 2920 } [.ref (ad 0), .int a1] σ (fX5_sweptBy a1 σ) := by
  refine ctI_intro (own := "KinInTheHeapModel") (by decide +kernel) rfl [some (.ref (ad 0)), some (.int a1), none, none] (Nat.le_of_ble_eq_true rfl) rfl ?_
  intro p e s m args below meth c A C hr hlk
  refine tr_iconst C (v := 0) dX5_sweptBy_0 (by decide) ?_
  refine tr_istore_n C (i := 2) (lv' := [some (.ref (ad 0)), some (.int a1), some (.int 0), none]) dX5_sweptBy_1 rfl (by decide) rfl ?_
  refine tr_iconst C (v := 0) dX5_sweptBy_2 (by decide) ?_
  refine tr_istore_n C (i := 3) (lv' := [some (.ref (ad 0)), some (.int a1), some (.int 0), some (.int 0)]) dX5_sweptBy_3 rfl (by decide) rfl ?_
  refine tr_loop (b := fX5_sweptBy_L4 a1) (sg := fun v => v.1) (lw := fun v => [some (.ref (ad 0)), some (.int a1), some (.int v.2.1), some (.int v.2.2)]) (sw := fun v => []) (fun ih4 IH4 v => ?_) 1000 (σ, 0, 0)
  obtain ⟨σ4, y2_4, y3_4⟩ := v
  refine tr_st (σ' := σ4) (lv' := [some (.ref (ad 0)), some (.int a1), some (.int y2_4), some (.int y3_4)]) (st' := []) rfl rfl rfl ?_
  refine tr_iload_n C (i := 3) dX5_sweptBy_4 rfl rfl ?_
  refine tr_aload_n C (i := 0) dX5_sweptBy_5 rfl rfl ?_
  refine tr_getR C (k := 41) (ci := 5) rfl rfl rfl inT5 rfl (by decide) w989 dX5_sweptBy_6 ?_
  refine tr_iload_n C (i := 1) dX5_sweptBy_9 rfl rfl ?_
  refine tr_iald C (n := 4) rfl dX5_sweptBy_10 (fun h4 => ?_)
  refine tr_icmp_ge C (tgt := 38) dX5_sweptBy_11 (by decide) (fun q3 => ?_) (fun q3 => ?_)
  · refine tr_iload_n C (i := 2) dX5_sweptBy_38 rfl rfl ?_
    exact tr_iret C hr hlk dX5_sweptBy_39
  · refine tr_iload_n C (i := 2) dX5_sweptBy_14 rfl rfl ?_
    refine tr_aload_n C (i := 0) dX5_sweptBy_15 rfl rfl ?_
    refine tr_aload_n C (i := 0) dX5_sweptBy_16 rfl rfl ?_
    refine tr_getR C (k := 42) (ci := 5) rfl rfl rfl inT5 rfl (by decide) w990 dX5_sweptBy_17 ?_
    refine tr_bipush C (v := 40) dX5_sweptBy_20 (by decide) ?_
    refine tr_iload_n C (i := 1) dX5_sweptBy_22 rfl rfl ?_
    refine tr_imul C dX5_sweptBy_23 ?_
    refine tr_iload_n C (i := 3) dX5_sweptBy_24 rfl rfl ?_
    refine tr_iadd C dX5_sweptBy_25 ?_
    refine tr_iald C (n := 160) rfl dX5_sweptBy_26 (fun h2 => ?_)
    refine tr_cVI C (av := [.int (rd σ4 16 ((40 * a1) + y3_4))]) (st := [.int y2_4]) (kX5_strokes l g cs ad (rd σ4 16 ((40 * a1) + y3_4)) σ4) mwX5_strokes w1240 rfl rfl ⟨rfl, rfl⟩ ⟨(Nat.le_of_ble_eq_true rfl), (Nat.le_of_ble_eq_true rfl)⟩ rfl rfl (Nat.le_of_ble_eq_true rfl) dX5_sweptBy_27 (fun r1 σ1 hr1 => ?_)
    refine tr_iadd C dX5_sweptBy_30 ?_
    refine tr_istore_n C (i := 2) (lv' := [some (.ref (ad 0)), some (.int a1), some (.int (y2_4 + r1)), some (.int y3_4)]) dX5_sweptBy_31 rfl (by decide) rfl ?_
    refine tr_iinc C (i := 3) (d := 1) (lv' := [some (.ref (ad 0)), some (.int a1), some (.int (y2_4 + r1)), some (.int (y3_4 + 1))]) dX5_sweptBy_32 rfl (by decide) (by decide) rfl ?_
    refine tr_goto C (tgt := 4) dX5_sweptBy_35 (by decide) ?_
    exact IH4 (σ1, y2_4 + r1, y3_4 + 1)
def fX5_isSheet (a1 : Int32) (σ : Mem) : Option (Int32) :=
  bn1 (fX5_in a1.toInt64 0 3 σ) fun r1 => (
    gd (isB r1) (some r1)
  )
set_option maxHeartbeats 4000000 in
set_option maxRecDepth 100000 in
theorem kX5_isSheet (l : Launch) (g : GG) (cs : CS) (ad : Nat → Nat) (a1 : Int32) (σ : Mem) : CtI l g cs ad (shM g) mX5_isSheet (.code mX5_isSheet cX5_isSheet 1 (some .boolean)) { frames := 1, cells := 0, slots := 0, locals := 25 } [.int a1] σ (pur (fX5_isSheet a1 σ) σ) := by
  refine ctIP_intro (own := "KinInTheHeapModel") (by decide +kernel) rfl [some (.int a1)] (Nat.le_of_ble_eq_true rfl) rfl ?_
  intro p e s m args below meth c A C hr hlk
  refine tr_iload_n C (i := 0) dX5_isSheet_0 rfl rfl ?_
  refine tr_i2l C dX5_isSheet_1 ?_
  refine tr_lconst C (v := 0) dX5_isSheet_2 (by decide) ?_
  refine tr_ldc2 C (v := 3) w1274 dX5_isSheet_3 ?_
  refine tr_cSIP C (av := [.long a1.toInt64, .long 0, .long 3]) (st := []) (kX5_in l g cs ad a1.toInt64 0 3 σ) mwX5_in w1084 ⟨rfl, rfl⟩ ⟨(Nat.le_of_ble_eq_true rfl), (Nat.le_of_ble_eq_true rfl)⟩ rfl rfl (Nat.le_of_ble_eq_true rfl) dX5_isSheet_6 (fun r1 hr1 => ?_)
  exact tr_zretPG C hr hlk dX5_isSheet_9
def fX5_sweep_b47 (a1 : Int32) (a2 : Int32) (σ47 : Mem) : Option (Int32 × Mem) :=
  bn1 (fX5_sweepBad a1 σ47) fun r3 => (
    if r3 = 0 then (
      bn1 (fX5_laysAside σ47) fun σ4 => (
        bnd (fX5_sweptBy a1 σ4) fun r5 σ5 => (
          if a2 = 0 then (
            bn1 (fX5_laysBack σ5) fun σ17 => (
              some (r5, σ17)
            )
          ) else (
            if a2 = 1 then (
              bn1 (fX5_togethers σ5) fun r14 => (
                bn1 (fX5_laysBack σ5) fun σ15 => (
                  some (r14, σ15)
                )
              )
            ) else (
              if a2 = 2 then (
                bn1 (fX5_heaps σ5) fun r11 => (
                  bn1 (fX5_laysBack σ5) fun σ12 => (
                    some (r11, σ12)
                  )
                )
              ) else (
                if a2 = 3 then (
                  bn1 (fX5_spread σ5) fun r8 => (
                    bn1 (fX5_laysBack σ5) fun σ9 => (
                      some (r8, σ9)
                    )
                  )
                ) else (
                  gd (inB (a2 - 10) 8) (
                    bn1 (fX5_laysBack σ5) fun σ6 => (
                      some (rd σ5 7 (a2 - 10), σ6)
                    )
                  )
                )
              )
            )
          )
        )
      )
    ) else (
      some (r3, σ47)
    )
  )
def fX5_sweep (a1 : Int32) (a2 : Int32) (σ : Mem) : Option (Int32 × Mem) :=
  bn1 (fX5_isSheet a1 σ) fun r1 => (
    if r1 = 0 then (
      some (-2, σ)
    ) else (
      bn1 (fX5_in a2.toInt64 0 3 σ) fun r2 => (
        if r2 = 0 then (
          bn1 (fX5_in a2.toInt64 10 17 σ) fun r20 => (
            if r20 = 0 then (
              some (-2, σ)
            ) else (
              bn1 (fX5_isOne (a2 - 10) σ) fun r21 => (
                if r21 = 0 then (
                  some (-2, σ)
                ) else (
                  fX5_sweep_b47 a1 a2 σ
                )
              )
            )
          )
        ) else (
          fX5_sweep_b47 a1 a2 σ
        )
      )
    )
  )
set_option maxHeartbeats 4000000 in
set_option maxRecDepth 100000 in
theorem kX5_sweep (l : Launch) (g : GG) (cs : CS) (ad : Nat → Nat) (a1 : Int32) (a2 : Int32) (σ : Mem) : CtI l g cs ad (shM g) mX5_sweep (.code mX5_sweep cX5_sweep 6 (some .int)) { frames := 80, cells := 0, slots := 0, locals := 2943 } [.ref (ad 0), .int a1, .int a2] σ (fX5_sweep a1 a2 σ) := by
  refine ctI_intro (own := "KinInTheHeapModel") (by decide +kernel) rfl [some (.ref (ad 0)), some (.int a1), some (.int a2), none, none, none] (Nat.le_of_ble_eq_true rfl) rfl ?_
  intro p e s m args below meth c A C hr hlk
  refine tr_iload_n C (i := 1) dX5_sweep_0 rfl rfl ?_
  refine tr_cSIP C (av := [.int a1]) (st := []) (kX5_isSheet l g cs ad a1 σ) mwX5_isSheet w1271 ⟨rfl, rfl⟩ ⟨(Nat.le_of_ble_eq_true rfl), (Nat.le_of_ble_eq_true rfl)⟩ rfl rfl (Nat.le_of_ble_eq_true rfl) dX5_sweep_1 (fun r1 hr1 => ?_)
  refine tr_if_eq C (tgt := 44) dX5_sweep_4 (by decide) (fun q25 => ?_) (fun q25 => ?_)
  · refine tr_bipush C (v := -2) dX5_sweep_44 (by decide) ?_
    exact tr_iret C hr hlk dX5_sweep_46
  · refine tr_iload_n C (i := 2) dX5_sweep_7 rfl rfl ?_
    refine tr_i2l C dX5_sweep_8 ?_
    refine tr_lconst C (v := 0) dX5_sweep_9 (by decide) ?_
    refine tr_ldc2 C (v := 3) w1274 dX5_sweep_10 ?_
    refine tr_cSIP C (av := [.long a2.toInt64, .long 0, .long 3]) (st := []) (kX5_in l g cs ad a2.toInt64 0 3 σ) mwX5_in w1084 ⟨rfl, rfl⟩ ⟨(Nat.le_of_ble_eq_true rfl), (Nat.le_of_ble_eq_true rfl)⟩ rfl rfl (Nat.le_of_ble_eq_true rfl) dX5_sweep_13 (fun r2 hr2 => ?_)
    have B47 : ∀ (σ47 : Mem), Tr p l e { frames := 80, cells := 0, slots := 0, locals := 2943 } s m args below meth c g ad (shM g) A 6 (QI g ad (shM g) A below args s) (fX5_sweep_b47 a1 a2 σ47) σ47 47 [some (.ref (ad 0)), some (.int a1), some (.int a2), none, none, none] [] := by
      intro σ47
      refine tr_aload_n C (i := 0) dX5_sweep_47 rfl rfl ?_
      refine tr_iload_n C (i := 1) dX5_sweep_48 rfl rfl ?_
      refine tr_cVIP C (av := [.int a1]) (st := []) (kX5_sweepBad l g cs ad a1 σ47) mwX5_sweepBad w1276 rfl rfl ⟨rfl, rfl⟩ ⟨(Nat.le_of_ble_eq_true rfl), (Nat.le_of_ble_eq_true rfl)⟩ rfl rfl (Nat.le_of_ble_eq_true rfl) dX5_sweep_49 (fun r3 hr3 => ?_)
      refine tr_istore_n C (i := 3) (lv' := [some (.ref (ad 0)), some (.int a1), some (.int a2), some (.int r3), none, none]) dX5_sweep_52 rfl (by decide) rfl ?_
      refine tr_iload_n C (i := 3) dX5_sweep_53 rfl rfl ?_
      refine tr_if_eq C (tgt := 59) dX5_sweep_54 (by decide) (fun q19 => ?_) (fun q19 => ?_)
      · refine tr_aload_n C (i := 0) dX5_sweep_59 rfl rfl ?_
        refine tr_cVV C (av := []) (st := []) (kX5_laysAside l g cs ad σ47) mwX5_laysAside w1280 rfl rfl ⟨rfl, rfl⟩ ⟨(Nat.le_of_ble_eq_true rfl), (Nat.le_of_ble_eq_true rfl)⟩ rfl rfl (Nat.le_of_ble_eq_true rfl) dX5_sweep_60 (fun σ4 hr4 => ?_)
        refine tr_aload_n C (i := 0) dX5_sweep_63 rfl rfl ?_
        refine tr_iload_n C (i := 1) dX5_sweep_64 rfl rfl ?_
        refine tr_cVI C (av := [.int a1]) (st := []) (kX5_sweptBy l g cs ad a1 σ4) mwX5_sweptBy w1284 rfl rfl ⟨rfl, rfl⟩ ⟨(Nat.le_of_ble_eq_true rfl), (Nat.le_of_ble_eq_true rfl)⟩ rfl rfl (Nat.le_of_ble_eq_true rfl) dX5_sweep_65 (fun r5 σ5 hr5 => ?_)
        refine tr_istore C (i := 4) (lv' := [some (.ref (ad 0)), some (.int a1), some (.int a2), some (.int r3), some (.int r5), none]) dX5_sweep_68 (by decide) rfl ?_
        refine tr_iload_n C (i := 2) dX5_sweep_70 rfl rfl ?_
        refine tr_if_ne C (tgt := 79) dX5_sweep_71 (by decide) (fun q18 => ?_) (fun q18 => ?_)
        · refine tr_iload C (i := 4) dX5_sweep_74 rfl ?_
          refine tr_goto C (tgt := 124) dX5_sweep_76 (by decide) ?_
          refine tr_istore C (i := 5) (lv' := [some (.ref (ad 0)), some (.int a1), some (.int a2), some (.int r3), some (.int r5), some (.int r5)]) dX5_sweep_124 (by decide) rfl ?_
          refine tr_aload_n C (i := 0) dX5_sweep_126 rfl rfl ?_
          refine tr_cVV C (av := []) (st := []) (kX5_laysBack l g cs ad σ5) mwX5_laysBack w1303 rfl rfl ⟨rfl, rfl⟩ ⟨(Nat.le_of_ble_eq_true rfl), (Nat.le_of_ble_eq_true rfl)⟩ rfl rfl (Nat.le_of_ble_eq_true rfl) dX5_sweep_127 (fun σ17 hr17 => ?_)
          refine tr_iload C (i := 5) dX5_sweep_130 rfl ?_
          exact tr_iret C hr hlk dX5_sweep_132
        · refine tr_iload_n C (i := 2) dX5_sweep_79 rfl rfl ?_
          refine tr_iconst C (v := 1) dX5_sweep_80 (by decide) ?_
          refine tr_icmp_ne C (tgt := 91) dX5_sweep_81 (by decide) (fun q16 => ?_) (fun q16 => ?_)
          · refine tr_aload_n C (i := 0) dX5_sweep_84 rfl rfl ?_
            refine tr_cVIP C (av := []) (st := []) (kX5_togethers l g cs ad σ5) mwX5_togethers w1288 rfl rfl ⟨rfl, rfl⟩ ⟨(Nat.le_of_ble_eq_true rfl), (Nat.le_of_ble_eq_true rfl)⟩ rfl rfl (Nat.le_of_ble_eq_true rfl) dX5_sweep_85 (fun r14 hr14 => ?_)
            refine tr_goto C (tgt := 124) dX5_sweep_88 (by decide) ?_
            refine tr_istore C (i := 5) (lv' := [some (.ref (ad 0)), some (.int a1), some (.int a2), some (.int r3), some (.int r5), some (.int r14)]) dX5_sweep_124 (by decide) rfl ?_
            refine tr_aload_n C (i := 0) dX5_sweep_126 rfl rfl ?_
            refine tr_cVV C (av := []) (st := []) (kX5_laysBack l g cs ad σ5) mwX5_laysBack w1303 rfl rfl ⟨rfl, rfl⟩ ⟨(Nat.le_of_ble_eq_true rfl), (Nat.le_of_ble_eq_true rfl)⟩ rfl rfl (Nat.le_of_ble_eq_true rfl) dX5_sweep_127 (fun σ15 hr15 => ?_)
            refine tr_iload C (i := 5) dX5_sweep_130 rfl ?_
            exact tr_iret C hr hlk dX5_sweep_132
          · refine tr_iload_n C (i := 2) dX5_sweep_91 rfl rfl ?_
            refine tr_iconst C (v := 2) dX5_sweep_92 (by decide) ?_
            refine tr_icmp_ne C (tgt := 103) dX5_sweep_93 (by decide) (fun q13 => ?_) (fun q13 => ?_)
            · refine tr_aload_n C (i := 0) dX5_sweep_96 rfl rfl ?_
              refine tr_cVIP C (av := []) (st := []) (kX5_heaps l g cs ad σ5) mwX5_heaps w1292 rfl rfl ⟨rfl, rfl⟩ ⟨(Nat.le_of_ble_eq_true rfl), (Nat.le_of_ble_eq_true rfl)⟩ rfl rfl (Nat.le_of_ble_eq_true rfl) dX5_sweep_97 (fun r11 hr11 => ?_)
              refine tr_goto C (tgt := 124) dX5_sweep_100 (by decide) ?_
              refine tr_istore C (i := 5) (lv' := [some (.ref (ad 0)), some (.int a1), some (.int a2), some (.int r3), some (.int r5), some (.int r11)]) dX5_sweep_124 (by decide) rfl ?_
              refine tr_aload_n C (i := 0) dX5_sweep_126 rfl rfl ?_
              refine tr_cVV C (av := []) (st := []) (kX5_laysBack l g cs ad σ5) mwX5_laysBack w1303 rfl rfl ⟨rfl, rfl⟩ ⟨(Nat.le_of_ble_eq_true rfl), (Nat.le_of_ble_eq_true rfl)⟩ rfl rfl (Nat.le_of_ble_eq_true rfl) dX5_sweep_127 (fun σ12 hr12 => ?_)
              refine tr_iload C (i := 5) dX5_sweep_130 rfl ?_
              exact tr_iret C hr hlk dX5_sweep_132
            · refine tr_iload_n C (i := 2) dX5_sweep_103 rfl rfl ?_
              refine tr_iconst C (v := 3) dX5_sweep_104 (by decide) ?_
              refine tr_icmp_ne C (tgt := 115) dX5_sweep_105 (by decide) (fun q10 => ?_) (fun q10 => ?_)
              · refine tr_aload_n C (i := 0) dX5_sweep_108 rfl rfl ?_
                refine tr_cVIP C (av := []) (st := []) (kX5_spread l g cs ad σ5) mwX5_spread w1296 rfl rfl ⟨rfl, rfl⟩ ⟨(Nat.le_of_ble_eq_true rfl), (Nat.le_of_ble_eq_true rfl)⟩ rfl rfl (Nat.le_of_ble_eq_true rfl) dX5_sweep_109 (fun r8 hr8 => ?_)
                refine tr_goto C (tgt := 124) dX5_sweep_112 (by decide) ?_
                refine tr_istore C (i := 5) (lv' := [some (.ref (ad 0)), some (.int a1), some (.int a2), some (.int r3), some (.int r5), some (.int r8)]) dX5_sweep_124 (by decide) rfl ?_
                refine tr_aload_n C (i := 0) dX5_sweep_126 rfl rfl ?_
                refine tr_cVV C (av := []) (st := []) (kX5_laysBack l g cs ad σ5) mwX5_laysBack w1303 rfl rfl ⟨rfl, rfl⟩ ⟨(Nat.le_of_ble_eq_true rfl), (Nat.le_of_ble_eq_true rfl)⟩ rfl rfl (Nat.le_of_ble_eq_true rfl) dX5_sweep_127 (fun σ9 hr9 => ?_)
                refine tr_iload C (i := 5) dX5_sweep_130 rfl ?_
                exact tr_iret C hr hlk dX5_sweep_132
              · refine tr_aload_n C (i := 0) dX5_sweep_115 rfl rfl ?_
                refine tr_getR C (k := 12) (ci := 5) rfl rfl rfl inT5 rfl (by decide) w960 dX5_sweep_116 ?_
                refine tr_iload_n C (i := 2) dX5_sweep_119 rfl rfl ?_
                refine tr_bipush C (v := 10) dX5_sweep_120 (by decide) ?_
                refine tr_isub C dX5_sweep_122 ?_
                refine tr_iald C (n := 8) rfl dX5_sweep_123 (fun h7 => ?_)
                refine tr_istore C (i := 5) (lv' := [some (.ref (ad 0)), some (.int a1), some (.int a2), some (.int r3), some (.int r5), some (.int (rd σ5 7 (a2 - 10)))]) dX5_sweep_124 (by decide) rfl ?_
                refine tr_aload_n C (i := 0) dX5_sweep_126 rfl rfl ?_
                refine tr_cVV C (av := []) (st := []) (kX5_laysBack l g cs ad σ5) mwX5_laysBack w1303 rfl rfl ⟨rfl, rfl⟩ ⟨(Nat.le_of_ble_eq_true rfl), (Nat.le_of_ble_eq_true rfl)⟩ rfl rfl (Nat.le_of_ble_eq_true rfl) dX5_sweep_127 (fun σ6 hr6 => ?_)
                refine tr_iload C (i := 5) dX5_sweep_130 rfl ?_
                exact tr_iret C hr hlk dX5_sweep_132
      · refine tr_iload_n C (i := 3) dX5_sweep_57 rfl rfl ?_
        exact tr_iret C hr hlk dX5_sweep_58
    refine tr_if_ne C (tgt := 47) dX5_sweep_16 (by decide) (fun q24 => ?_) (fun q24 => ?_)
    · refine tr_iload_n C (i := 2) dX5_sweep_19 rfl rfl ?_
      refine tr_i2l C dX5_sweep_20 ?_
      refine tr_ldc2 C (v := 10) w1107 dX5_sweep_21 ?_
      refine tr_ldc2 C (v := 17) w1275 dX5_sweep_24 ?_
      refine tr_cSIP C (av := [.long a2.toInt64, .long 10, .long 17]) (st := []) (kX5_in l g cs ad a2.toInt64 10 17 σ) mwX5_in w1084 ⟨rfl, rfl⟩ ⟨(Nat.le_of_ble_eq_true rfl), (Nat.le_of_ble_eq_true rfl)⟩ rfl rfl (Nat.le_of_ble_eq_true rfl) dX5_sweep_27 (fun r20 hr20 => ?_)
      refine tr_if_eq C (tgt := 44) dX5_sweep_30 (by decide) (fun q23 => ?_) (fun q23 => ?_)
      · refine tr_bipush C (v := -2) dX5_sweep_44 (by decide) ?_
        exact tr_iret C hr hlk dX5_sweep_46
      · refine tr_aload_n C (i := 0) dX5_sweep_33 rfl rfl ?_
        refine tr_iload_n C (i := 2) dX5_sweep_34 rfl rfl ?_
        refine tr_bipush C (v := 10) dX5_sweep_35 (by decide) ?_
        refine tr_isub C dX5_sweep_37 ?_
        refine tr_cVIP C (av := [.int (a2 - 10)]) (st := []) (kX5_isOne l g cs ad (a2 - 10) σ) mwX5_isOne w1095 rfl rfl ⟨rfl, rfl⟩ ⟨(Nat.le_of_ble_eq_true rfl), (Nat.le_of_ble_eq_true rfl)⟩ rfl rfl (Nat.le_of_ble_eq_true rfl) dX5_sweep_38 (fun r21 hr21 => ?_)
        refine tr_if_ne C (tgt := 47) dX5_sweep_41 (by decide) (fun q22 => ?_) (fun q22 => ?_)
        · refine tr_bipush C (v := -2) dX5_sweep_44 (by decide) ?_
          exact tr_iret C hr hlk dX5_sweep_46
        · exact B47 σ
    · exact B47 σ
def fX5_sweeps (a1 : Int32) (σ : Mem) : Option (Int32 × Mem) :=
  bn1 (fX5_isSheet a1 σ) fun r1 => (
    if r1 = 0 then (
      some (-2, σ)
    ) else (
      bn1 (fX5_sweepBad a1 σ) fun r2 => (
        if r2 = 0 then (
          bnd (fX5_sweptBy a1 σ) fun r3 σ3 => (
            some (r3, σ3)
          )
        ) else (
          some (r2, σ)
        )
      )
    )
  )
set_option maxHeartbeats 4000000 in
set_option maxRecDepth 100000 in
theorem kX5_sweeps (l : Launch) (g : GG) (cs : CS) (ad : Nat → Nat) (a1 : Int32) (σ : Mem) : CtI l g cs ad (shM g) mX5_sweeps (.code mX5_sweeps cX5_sweeps 3 (some .int)) { frames := 80, cells := 0, slots := 0, locals := 2943 } [.ref (ad 0), .int a1] σ (fX5_sweeps a1 σ) := by
  refine ctI_intro (own := "KinInTheHeapModel") (by decide +kernel) rfl [some (.ref (ad 0)), some (.int a1), none] (Nat.le_of_ble_eq_true rfl) rfl ?_
  intro p e s m args below meth c A C hr hlk
  refine tr_iload_n C (i := 1) dX5_sweeps_0 rfl rfl ?_
  refine tr_cSIP C (av := [.int a1]) (st := []) (kX5_isSheet l g cs ad a1 σ) mwX5_isSheet w1271 ⟨rfl, rfl⟩ ⟨(Nat.le_of_ble_eq_true rfl), (Nat.le_of_ble_eq_true rfl)⟩ rfl rfl (Nat.le_of_ble_eq_true rfl) dX5_sweeps_1 (fun r1 hr1 => ?_)
  refine tr_if_ne C (tgt := 10) dX5_sweeps_4 (by decide) (fun q5 => ?_) (fun q5 => ?_)
  · refine tr_bipush C (v := -2) dX5_sweeps_7 (by decide) ?_
    exact tr_iret C hr hlk dX5_sweeps_9
  · refine tr_aload_n C (i := 0) dX5_sweeps_10 rfl rfl ?_
    refine tr_iload_n C (i := 1) dX5_sweeps_11 rfl rfl ?_
    refine tr_cVIP C (av := [.int a1]) (st := []) (kX5_sweepBad l g cs ad a1 σ) mwX5_sweepBad w1276 rfl rfl ⟨rfl, rfl⟩ ⟨(Nat.le_of_ble_eq_true rfl), (Nat.le_of_ble_eq_true rfl)⟩ rfl rfl (Nat.le_of_ble_eq_true rfl) dX5_sweeps_12 (fun r2 hr2 => ?_)
    refine tr_istore_n C (i := 2) (lv' := [some (.ref (ad 0)), some (.int a1), some (.int r2)]) dX5_sweeps_15 rfl (by decide) rfl ?_
    refine tr_iload_n C (i := 2) dX5_sweeps_16 rfl rfl ?_
    refine tr_if_ne C (tgt := 28) dX5_sweeps_17 (by decide) (fun q4 => ?_) (fun q4 => ?_)
    · refine tr_aload_n C (i := 0) dX5_sweeps_20 rfl rfl ?_
      refine tr_iload_n C (i := 1) dX5_sweeps_21 rfl rfl ?_
      refine tr_cVI C (av := [.int a1]) (st := []) (kX5_sweptBy l g cs ad a1 σ) mwX5_sweptBy w1284 rfl rfl ⟨rfl, rfl⟩ ⟨(Nat.le_of_ble_eq_true rfl), (Nat.le_of_ble_eq_true rfl)⟩ rfl rfl (Nat.le_of_ble_eq_true rfl) dX5_sweeps_22 (fun r3 σ3 hr3 => ?_)
      refine tr_goto C (tgt := 29) dX5_sweeps_25 (by decide) ?_
      exact tr_iret C hr hlk dX5_sweeps_29
    · refine tr_iload_n C (i := 2) dX5_sweeps_28 rfl rfl ?_
      exact tr_iret C hr hlk dX5_sweeps_29
def fX5_floor (a1 : Int32) (σ : Mem) : Option (Int32) :=
  bn1 (fX5_in a1.toInt64 0 4 σ) fun r1 => (
    if r1 = 0 then (
      some (-2)
    ) else (
      if a1 = 0 then (
        bn1 (fX5_heaps σ) fun r9 => (
          some r9
        )
      ) else (
        if a1 = 1 then (
          bn1 (fX5_greatest σ) fun r7 => (
            some r7
          )
        ) else (
          if a1 = 2 then (
            bn1 (fX5_togethers σ) fun r5 => (
              some r5
            )
          ) else (
            if a1 = 3 then (
              bn1 (fX5_spread σ) fun r3 => (
                some r3
              )
            ) else (
              bn1 (fX5_whoIn (-1) σ) fun r2 => (
                some r2
              )
            )
          )
        )
      )
    )
  )
set_option maxHeartbeats 4000000 in
set_option maxRecDepth 100000 in
theorem kX5_floor (l : Launch) (g : GG) (cs : CS) (ad : Nat → Nat) (a1 : Int32) (σ : Mem) : CtI l g cs ad (shM g) mX5_floor (.code mX5_floor cX5_floor 2 (some .int)) { frames := 2, cells := 0, slots := 0, locals := 45 } [.ref (ad 0), .int a1] σ (pur (fX5_floor a1 σ) σ) := by
  refine ctIP_intro (own := "KinInTheHeapModel") (by decide +kernel) rfl [some (.ref (ad 0)), some (.int a1)] (Nat.le_of_ble_eq_true rfl) rfl ?_
  intro p e s m args below meth c A C hr hlk
  refine tr_iload_n C (i := 1) dX5_floor_0 rfl rfl ?_
  refine tr_i2l C dX5_floor_1 ?_
  refine tr_lconst C (v := 0) dX5_floor_2 (by decide) ?_
  refine tr_ldc2 C (v := 4) w1083 dX5_floor_3 ?_
  refine tr_cSIP C (av := [.long a1.toInt64, .long 0, .long 4]) (st := []) (kX5_in l g cs ad a1.toInt64 0 4 σ) mwX5_in w1084 ⟨rfl, rfl⟩ ⟨(Nat.le_of_ble_eq_true rfl), (Nat.le_of_ble_eq_true rfl)⟩ rfl rfl (Nat.le_of_ble_eq_true rfl) dX5_floor_6 (fun r1 hr1 => ?_)
  refine tr_if_ne C (tgt := 15) dX5_floor_9 (by decide) (fun q11 => ?_) (fun q11 => ?_)
  · refine tr_bipush C (v := -2) dX5_floor_12 (by decide) ?_
    exact tr_iretP C hr hlk dX5_floor_14
  · refine tr_iload_n C (i := 1) dX5_floor_15 rfl rfl ?_
    refine tr_if_ne C (tgt := 26) dX5_floor_16 (by decide) (fun q10 => ?_) (fun q10 => ?_)
    · refine tr_aload_n C (i := 0) dX5_floor_19 rfl rfl ?_
      refine tr_cVIP C (av := []) (st := []) (kX5_heaps l g cs ad σ) mwX5_heaps w1292 rfl rfl ⟨rfl, rfl⟩ ⟨(Nat.le_of_ble_eq_true rfl), (Nat.le_of_ble_eq_true rfl)⟩ rfl rfl (Nat.le_of_ble_eq_true rfl) dX5_floor_20 (fun r9 hr9 => ?_)
      refine tr_goto C (tgt := 67) dX5_floor_23 (by decide) ?_
      exact tr_iretP C hr hlk dX5_floor_67
    · refine tr_iload_n C (i := 1) dX5_floor_26 rfl rfl ?_
      refine tr_iconst C (v := 1) dX5_floor_27 (by decide) ?_
      refine tr_icmp_ne C (tgt := 38) dX5_floor_28 (by decide) (fun q8 => ?_) (fun q8 => ?_)
      · refine tr_aload_n C (i := 0) dX5_floor_31 rfl rfl ?_
        refine tr_cVIP C (av := []) (st := []) (kX5_greatest l g cs ad σ) mwX5_greatest w1315 rfl rfl ⟨rfl, rfl⟩ ⟨(Nat.le_of_ble_eq_true rfl), (Nat.le_of_ble_eq_true rfl)⟩ rfl rfl (Nat.le_of_ble_eq_true rfl) dX5_floor_32 (fun r7 hr7 => ?_)
        refine tr_goto C (tgt := 67) dX5_floor_35 (by decide) ?_
        exact tr_iretP C hr hlk dX5_floor_67
      · refine tr_iload_n C (i := 1) dX5_floor_38 rfl rfl ?_
        refine tr_iconst C (v := 2) dX5_floor_39 (by decide) ?_
        refine tr_icmp_ne C (tgt := 50) dX5_floor_40 (by decide) (fun q6 => ?_) (fun q6 => ?_)
        · refine tr_aload_n C (i := 0) dX5_floor_43 rfl rfl ?_
          refine tr_cVIP C (av := []) (st := []) (kX5_togethers l g cs ad σ) mwX5_togethers w1288 rfl rfl ⟨rfl, rfl⟩ ⟨(Nat.le_of_ble_eq_true rfl), (Nat.le_of_ble_eq_true rfl)⟩ rfl rfl (Nat.le_of_ble_eq_true rfl) dX5_floor_44 (fun r5 hr5 => ?_)
          refine tr_goto C (tgt := 67) dX5_floor_47 (by decide) ?_
          exact tr_iretP C hr hlk dX5_floor_67
        · refine tr_iload_n C (i := 1) dX5_floor_50 rfl rfl ?_
          refine tr_iconst C (v := 3) dX5_floor_51 (by decide) ?_
          refine tr_icmp_ne C (tgt := 62) dX5_floor_52 (by decide) (fun q4 => ?_) (fun q4 => ?_)
          · refine tr_aload_n C (i := 0) dX5_floor_55 rfl rfl ?_
            refine tr_cVIP C (av := []) (st := []) (kX5_spread l g cs ad σ) mwX5_spread w1296 rfl rfl ⟨rfl, rfl⟩ ⟨(Nat.le_of_ble_eq_true rfl), (Nat.le_of_ble_eq_true rfl)⟩ rfl rfl (Nat.le_of_ble_eq_true rfl) dX5_floor_56 (fun r3 hr3 => ?_)
            refine tr_goto C (tgt := 67) dX5_floor_59 (by decide) ?_
            exact tr_iretP C hr hlk dX5_floor_67
          · refine tr_aload_n C (i := 0) dX5_floor_62 rfl rfl ?_
            refine tr_iconst C (v := -1) dX5_floor_63 (by decide) ?_
            refine tr_cVIP C (av := [.int (-1)]) (st := []) (kX5_whoIn l g cs ad (-1) σ) mwX5_whoIn w1108 rfl rfl ⟨rfl, rfl⟩ ⟨(Nat.le_of_ble_eq_true rfl), (Nat.le_of_ble_eq_true rfl)⟩ rfl rfl (Nat.le_of_ble_eq_true rfl) dX5_floor_64 (fun r2 hr2 => ?_)
            exact tr_iretP C hr hlk dX5_floor_67
def fX5_comes_L9 (a1 : Int32) (ih9 : Mem × Int64 × Int32 → Option (Int64 × Mem)) : Mem × Int64 × Int32 → Option (Int64 × Mem) := fun v => match v with
  | (σ9, y2_9, y4_9) =>
    if 24 ≤ y4_9 then (
      some (y2_9, σ9)
    ) else (
      gd (inB a1 8) (
        if (rd σ9 7 a1) = (-1) then (
          some (y2_9, σ9)
        ) else (
          bnd (fX5_strokes y4_9 σ9) fun r2 σ2 => (
            gd (inB a1 8) (
              if (rd σ2 7 a1) = (-1) then (
                bn1 (fX5_laysBack σ2) fun σ5 => (
                  ih9 (σ5, y2_9 ||| 0, y4_9 + 1)
                )
              ) else (
                gd (inB a1 8) (
                  bn1 (fX5_laysBack σ2) fun σ3 => (
                    ih9 (σ3, y2_9 ||| (1 <<< ((rd σ2 7 a1).toInt64 &&& 63)), y4_9 + 1)
                  )
                )
              )
            )
          )
        )
      )
    )
def fX5_comes (a1 : Int32) (σ : Mem) : Option (Int64 × Mem) :=
  bn1 (fX5_laysAside σ) fun σ1 => (
    loopN (fX5_comes_L9 a1) 1000 (σ1, 0, 0)
  )
set_option maxHeartbeats 4000000 in
set_option maxRecDepth 100000 in
theorem kX5_comes (l : Launch) (g : GG) (cs : CS) (ad : Nat → Nat) (a1 : Int32) (σ : Mem) : CtL l g cs ad (shM g) mX5_comes (.code mX5_comes cX5_comes 5 (some .long)) { frames := 79, cells := 0, slots := 0, locals := 2920 } [.ref (ad 0), .int a1] σ (fX5_comes a1 σ) := by
  refine ctL_intro (own := "KinInTheHeapModel") (by decide +kernel) rfl [some (.ref (ad 0)), some (.int a1), none, none, none] (Nat.le_of_ble_eq_true rfl) rfl ?_
  intro p e s m args below meth c A C hr hlk
  refine tr_aload_n C (i := 0) dX5_comes_0 rfl rfl ?_
  refine tr_cVV C (av := []) (st := []) (kX5_laysAside l g cs ad σ) mwX5_laysAside w1280 rfl rfl ⟨rfl, rfl⟩ ⟨(Nat.le_of_ble_eq_true rfl), (Nat.le_of_ble_eq_true rfl)⟩ rfl rfl (Nat.le_of_ble_eq_true rfl) dX5_comes_1 (fun σ1 hr1 => ?_)
  refine tr_lconst C (v := 0) dX5_comes_4 (by decide) ?_
  refine tr_lstore_n C (i := 2) (lv' := [some (.ref (ad 0)), some (.int a1), some (.long 0), none, none]) dX5_comes_5 rfl (by decide) rfl ?_
  refine tr_iconst C (v := 0) dX5_comes_6 (by decide) ?_
  refine tr_istore C (i := 4) (lv' := [some (.ref (ad 0)), some (.int a1), some (.long 0), none, some (.int 0)]) dX5_comes_7 (by decide) rfl ?_
  refine tr_loop (b := fX5_comes_L9 a1) (sg := fun v => v.1) (lw := fun v => [some (.ref (ad 0)), some (.int a1), some (.long v.2.1), none, some (.int v.2.2)]) (sw := fun v => []) (fun ih9 IH9 v => ?_) 1000 (σ1, 0, 0)
  obtain ⟨σ9, y2_9, y4_9⟩ := v
  refine tr_st (σ' := σ9) (lv' := [some (.ref (ad 0)), some (.int a1), some (.long y2_9), none, some (.int y4_9)]) (st' := []) rfl rfl rfl ?_
  refine tr_iload C (i := 4) dX5_comes_9 rfl ?_
  refine tr_bipush C (v := 24) dX5_comes_11 (by decide) ?_
  refine tr_icmp_ge C (tgt := 68) dX5_comes_13 (by decide) (fun q10 => ?_) (fun q10 => ?_)
  · refine tr_lload_n C (i := 2) dX5_comes_68 rfl rfl ?_
    exact tr_lret C hr hlk dX5_comes_69
  · refine tr_aload_n C (i := 0) dX5_comes_16 rfl rfl ?_
    refine tr_getR C (k := 12) (ci := 5) rfl rfl rfl inT5 rfl (by decide) w960 dX5_comes_17 ?_
    refine tr_iload_n C (i := 1) dX5_comes_20 rfl rfl ?_
    refine tr_iald C (n := 8) rfl dX5_comes_21 (fun h9 => ?_)
    refine tr_iconst C (v := -1) dX5_comes_22 (by decide) ?_
    refine tr_icmp_eq C (tgt := 68) dX5_comes_23 (by decide) (fun q8 => ?_) (fun q8 => ?_)
    · refine tr_lload_n C (i := 2) dX5_comes_68 rfl rfl ?_
      exact tr_lret C hr hlk dX5_comes_69
    · refine tr_aload_n C (i := 0) dX5_comes_26 rfl rfl ?_
      refine tr_iload C (i := 4) dX5_comes_27 rfl ?_
      refine tr_cVI C (av := [.int y4_9]) (st := []) (kX5_strokes l g cs ad y4_9 σ9) mwX5_strokes w1240 rfl rfl ⟨rfl, rfl⟩ ⟨(Nat.le_of_ble_eq_true rfl), (Nat.le_of_ble_eq_true rfl)⟩ rfl rfl (Nat.le_of_ble_eq_true rfl) dX5_comes_29 (fun r2 σ2 hr2 => ?_)
      refine tr_pop C dX5_comes_32 rfl ?_
      refine tr_lload_n C (i := 2) dX5_comes_33 rfl rfl ?_
      refine tr_aload_n C (i := 0) dX5_comes_34 rfl rfl ?_
      refine tr_getR C (k := 12) (ci := 5) rfl rfl rfl inT5 rfl (by decide) w960 dX5_comes_35 ?_
      refine tr_iload_n C (i := 1) dX5_comes_38 rfl rfl ?_
      refine tr_iald C (n := 8) rfl dX5_comes_39 (fun h7 => ?_)
      refine tr_iconst C (v := -1) dX5_comes_40 (by decide) ?_
      refine tr_icmp_ne C (tgt := 48) dX5_comes_41 (by decide) (fun q6 => ?_) (fun q6 => ?_)
      · refine tr_lconst C (v := 0) dX5_comes_44 (by decide) ?_
        refine tr_goto C (tgt := 56) dX5_comes_45 (by decide) ?_
        refine tr_lor C dX5_comes_56 ?_
        refine tr_lstore_n C (i := 2) (lv' := [some (.ref (ad 0)), some (.int a1), some (.long (y2_9 ||| 0)), none, some (.int y4_9)]) dX5_comes_57 rfl (by decide) rfl ?_
        refine tr_aload_n C (i := 0) dX5_comes_58 rfl rfl ?_
        refine tr_cVV C (av := []) (st := []) (kX5_laysBack l g cs ad σ2) mwX5_laysBack w1303 rfl rfl ⟨rfl, rfl⟩ ⟨(Nat.le_of_ble_eq_true rfl), (Nat.le_of_ble_eq_true rfl)⟩ rfl rfl (Nat.le_of_ble_eq_true rfl) dX5_comes_59 (fun σ5 hr5 => ?_)
        refine tr_iinc C (i := 4) (d := 1) (lv' := [some (.ref (ad 0)), some (.int a1), some (.long (y2_9 ||| 0)), none, some (.int (y4_9 + 1))]) dX5_comes_62 rfl (by decide) (by decide) rfl ?_
        refine tr_goto C (tgt := 9) dX5_comes_65 (by decide) ?_
        exact IH9 (σ5, y2_9 ||| 0, y4_9 + 1)
      · refine tr_lconst C (v := 1) dX5_comes_48 (by decide) ?_
        refine tr_aload_n C (i := 0) dX5_comes_49 rfl rfl ?_
        refine tr_getR C (k := 12) (ci := 5) rfl rfl rfl inT5 rfl (by decide) w960 dX5_comes_50 ?_
        refine tr_iload_n C (i := 1) dX5_comes_53 rfl rfl ?_
        refine tr_iald C (n := 8) rfl dX5_comes_54 (fun h4 => ?_)
        refine tr_lshl C dX5_comes_55 ?_
        refine tr_lor C dX5_comes_56 ?_
        refine tr_lstore_n C (i := 2) (lv' := [some (.ref (ad 0)), some (.int a1), some (.long (y2_9 ||| (1 <<< ((rd σ2 7 a1).toInt64 &&& 63)))), none, some (.int y4_9)]) dX5_comes_57 rfl (by decide) rfl ?_
        refine tr_aload_n C (i := 0) dX5_comes_58 rfl rfl ?_
        refine tr_cVV C (av := []) (st := []) (kX5_laysBack l g cs ad σ2) mwX5_laysBack w1303 rfl rfl ⟨rfl, rfl⟩ ⟨(Nat.le_of_ble_eq_true rfl), (Nat.le_of_ble_eq_true rfl)⟩ rfl rfl (Nat.le_of_ble_eq_true rfl) dX5_comes_59 (fun σ3 hr3 => ?_)
        refine tr_iinc C (i := 4) (d := 1) (lv' := [some (.ref (ad 0)), some (.int a1), some (.long (y2_9 ||| (1 <<< ((rd σ2 7 a1).toInt64 &&& 63)))), none, some (.int (y4_9 + 1))]) dX5_comes_62 rfl (by decide) (by decide) rfl ?_
        refine tr_goto C (tgt := 9) dX5_comes_65 (by decide) ?_
        exact IH9 (σ3, y2_9 ||| (1 <<< ((rd σ2 7 a1).toInt64 &&& 63)), y4_9 + 1)
def fX5_where_L58 (a1 : Int32) (σ58 : Mem) (ih58 : Int64 × Int32 → Option (Int64 × Mem)) : Int64 × Int32 → Option (Int64 × Mem) := fun v => match v with
  | (y2_58, y4_58) =>
    if 36 ≤ y4_58 then (
      some (y2_58, σ58)
    ) else (
      if a1 = 0 then (
        bn1 (fX5_whoIn y4_58 σ58) fun r4 => (
          if r4 = 0 then (
            ih58 (y2_58 ||| 0, y4_58 + 1)
          ) else (
            ih58 (y2_58 ||| (1 <<< (y4_58.toInt64 &&& 63)), y4_58 + 1)
          )
        )
      ) else (
        gd (inB y4_58 36) (
          if (rd σ58 4 y4_58) = 1 then (
            ih58 (y2_58 ||| (1 <<< (y4_58.toInt64 &&& 63)), y4_58 + 1)
          ) else (
            ih58 (y2_58 ||| 0, y4_58 + 1)
          )
        )
      )
    )
def fX5_where_b39 (a1 : Int32) (σ39 : Mem) : Option (Int64 × Mem) :=
  if a1 ≤ 1 then (
    loopN (fX5_where_L58 a1 σ39) 1000 (0, 0)
  ) else (
    bnd (fX5_comes (a1 - 10) σ39) fun r8 σ8 => (
      some (r8, σ8)
    )
  )
def fX5_where (a1 : Int32) (σ : Mem) : Option (Int64 × Mem) :=
  bn1 (fX5_in a1.toInt64 0 1 σ) fun r1 => (
    if r1 = 0 then (
      bn1 (fX5_in a1.toInt64 10 17 σ) fun r10 => (
        if r10 = 0 then (
          some (-4611686018427387904, σ)
        ) else (
          bn1 (fX5_isOne (a1 - 10) σ) fun r11 => (
            if r11 = 0 then (
              some (-4611686018427387904, σ)
            ) else (
              fX5_where_b39 a1 σ
            )
          )
        )
      )
    ) else (
      fX5_where_b39 a1 σ
    )
  )
set_option maxHeartbeats 4000000 in
set_option maxRecDepth 100000 in
theorem kX5_where (l : Launch) (g : GG) (cs : CS) (ad : Nat → Nat) (a1 : Int32) (σ : Mem) : CtL l g cs ad (shM g) mX5_where (.code mX5_where cX5_where 5 (some .long)) { frames := 80, cells := 0, slots := 0, locals := 2944 } [.ref (ad 0), .int a1] σ (fX5_where a1 σ) := by
  refine ctL_intro (own := "KinInTheHeapModel") (by decide +kernel) rfl [some (.ref (ad 0)), some (.int a1), none, none, none] (Nat.le_of_ble_eq_true rfl) rfl ?_
  intro p e s m args below meth c A C hr hlk
  refine tr_iload_n C (i := 1) dX5_where_0 rfl rfl ?_
  refine tr_i2l C dX5_where_1 ?_
  refine tr_lconst C (v := 0) dX5_where_2 (by decide) ?_
  refine tr_lconst C (v := 1) dX5_where_3 (by decide) ?_
  refine tr_cSIP C (av := [.long a1.toInt64, .long 0, .long 1]) (st := []) (kX5_in l g cs ad a1.toInt64 0 1 σ) mwX5_in w1084 ⟨rfl, rfl⟩ ⟨(Nat.le_of_ble_eq_true rfl), (Nat.le_of_ble_eq_true rfl)⟩ rfl rfl (Nat.le_of_ble_eq_true rfl) dX5_where_4 (fun r1 hr1 => ?_)
  have B39 : ∀ (σ39 : Mem), Tr p l e { frames := 80, cells := 0, slots := 0, locals := 2944 } s m args below meth c g ad (shM g) A 5 (QL g ad (shM g) A below args s) (fX5_where_b39 a1 σ39) σ39 39 [some (.ref (ad 0)), some (.int a1), none, none, none] [] := by
    intro σ39
    refine tr_iload_n C (i := 1) dX5_where_39 rfl rfl ?_
    refine tr_iconst C (v := 1) dX5_where_40 (by decide) ?_
    refine tr_icmp_le C (tgt := 53) dX5_where_41 (by decide) (fun q9 => ?_) (fun q9 => ?_)
    · refine tr_lconst C (v := 0) dX5_where_53 (by decide) ?_
      refine tr_lstore_n C (i := 2) (lv' := [some (.ref (ad 0)), some (.int a1), some (.long 0), none, none]) dX5_where_54 rfl (by decide) rfl ?_
      refine tr_iconst C (v := 0) dX5_where_55 (by decide) ?_
      refine tr_istore C (i := 4) (lv' := [some (.ref (ad 0)), some (.int a1), some (.long 0), none, some (.int 0)]) dX5_where_56 (by decide) rfl ?_
      refine tr_loop (b := fX5_where_L58 a1 σ39) (sg := fun v => σ39) (lw := fun v => [some (.ref (ad 0)), some (.int a1), some (.long v.1), none, some (.int v.2)]) (sw := fun v => []) (fun ih58 IH58 v => ?_) 1000 (0, 0)
      obtain ⟨y2_58, y4_58⟩ := v
      refine tr_st (σ' := σ39) (lv' := [some (.ref (ad 0)), some (.int a1), some (.long y2_58), none, some (.int y4_58)]) (st' := []) rfl rfl rfl ?_
      refine tr_iload C (i := 4) dX5_where_58 rfl ?_
      refine tr_bipush C (v := 36) dX5_where_60 (by decide) ?_
      refine tr_icmp_ge C (tgt := 109) dX5_where_62 (by decide) (fun q7 => ?_) (fun q7 => ?_)
      · refine tr_lload_n C (i := 2) dX5_where_109 rfl rfl ?_
        exact tr_lret C hr hlk dX5_where_110
      · refine tr_lload_n C (i := 2) dX5_where_65 rfl rfl ?_
        refine tr_iload_n C (i := 1) dX5_where_66 rfl rfl ?_
        refine tr_if_ne C (tgt := 82) dX5_where_67 (by decide) (fun q6 => ?_) (fun q6 => ?_)
        · refine tr_aload_n C (i := 0) dX5_where_70 rfl rfl ?_
          refine tr_iload C (i := 4) dX5_where_71 rfl ?_
          refine tr_cVIP C (av := [.int y4_58]) (st := [.long y2_58]) (kX5_whoIn l g cs ad y4_58 σ39) mwX5_whoIn w1108 rfl rfl ⟨rfl, rfl⟩ ⟨(Nat.le_of_ble_eq_true rfl), (Nat.le_of_ble_eq_true rfl)⟩ rfl rfl (Nat.le_of_ble_eq_true rfl) dX5_where_73 (fun r4 hr4 => ?_)
          refine tr_if_eq C (tgt := 100) dX5_where_76 (by decide) (fun q5 => ?_) (fun q5 => ?_)
          · refine tr_lconst C (v := 0) dX5_where_100 (by decide) ?_
            refine tr_lor C dX5_where_101 ?_
            refine tr_lstore_n C (i := 2) (lv' := [some (.ref (ad 0)), some (.int a1), some (.long (y2_58 ||| 0)), none, some (.int y4_58)]) dX5_where_102 rfl (by decide) rfl ?_
            refine tr_iinc C (i := 4) (d := 1) (lv' := [some (.ref (ad 0)), some (.int a1), some (.long (y2_58 ||| 0)), none, some (.int (y4_58 + 1))]) dX5_where_103 rfl (by decide) (by decide) rfl ?_
            refine tr_goto C (tgt := 58) dX5_where_106 (by decide) ?_
            exact IH58 (y2_58 ||| 0, y4_58 + 1)
          · refine tr_goto C (tgt := 93) dX5_where_79 (by decide) ?_
            refine tr_lconst C (v := 1) dX5_where_93 (by decide) ?_
            refine tr_iload C (i := 4) dX5_where_94 rfl ?_
            refine tr_lshl C dX5_where_96 ?_
            refine tr_goto C (tgt := 101) dX5_where_97 (by decide) ?_
            refine tr_lor C dX5_where_101 ?_
            refine tr_lstore_n C (i := 2) (lv' := [some (.ref (ad 0)), some (.int a1), some (.long (y2_58 ||| (1 <<< (y4_58.toInt64 &&& 63)))), none, some (.int y4_58)]) dX5_where_102 rfl (by decide) rfl ?_
            refine tr_iinc C (i := 4) (d := 1) (lv' := [some (.ref (ad 0)), some (.int a1), some (.long (y2_58 ||| (1 <<< (y4_58.toInt64 &&& 63)))), none, some (.int (y4_58 + 1))]) dX5_where_103 rfl (by decide) (by decide) rfl ?_
            refine tr_goto C (tgt := 58) dX5_where_106 (by decide) ?_
            exact IH58 (y2_58 ||| (1 <<< (y4_58.toInt64 &&& 63)), y4_58 + 1)
        · refine tr_aload_n C (i := 0) dX5_where_82 rfl rfl ?_
          refine tr_getR C (k := 9) (ci := 5) rfl rfl rfl inT5 rfl (by decide) w957 dX5_where_83 ?_
          refine tr_iload C (i := 4) dX5_where_86 rfl ?_
          refine tr_iald C (n := 36) rfl dX5_where_88 (fun h3 => ?_)
          refine tr_iconst C (v := 1) dX5_where_89 (by decide) ?_
          refine tr_icmp_ne C (tgt := 100) dX5_where_90 (by decide) (fun q2 => ?_) (fun q2 => ?_)
          · refine tr_lconst C (v := 1) dX5_where_93 (by decide) ?_
            refine tr_iload C (i := 4) dX5_where_94 rfl ?_
            refine tr_lshl C dX5_where_96 ?_
            refine tr_goto C (tgt := 101) dX5_where_97 (by decide) ?_
            refine tr_lor C dX5_where_101 ?_
            refine tr_lstore_n C (i := 2) (lv' := [some (.ref (ad 0)), some (.int a1), some (.long (y2_58 ||| (1 <<< (y4_58.toInt64 &&& 63)))), none, some (.int y4_58)]) dX5_where_102 rfl (by decide) rfl ?_
            refine tr_iinc C (i := 4) (d := 1) (lv' := [some (.ref (ad 0)), some (.int a1), some (.long (y2_58 ||| (1 <<< (y4_58.toInt64 &&& 63)))), none, some (.int (y4_58 + 1))]) dX5_where_103 rfl (by decide) (by decide) rfl ?_
            refine tr_goto C (tgt := 58) dX5_where_106 (by decide) ?_
            exact IH58 (y2_58 ||| (1 <<< (y4_58.toInt64 &&& 63)), y4_58 + 1)
          · refine tr_lconst C (v := 0) dX5_where_100 (by decide) ?_
            refine tr_lor C dX5_where_101 ?_
            refine tr_lstore_n C (i := 2) (lv' := [some (.ref (ad 0)), some (.int a1), some (.long (y2_58 ||| 0)), none, some (.int y4_58)]) dX5_where_102 rfl (by decide) rfl ?_
            refine tr_iinc C (i := 4) (d := 1) (lv' := [some (.ref (ad 0)), some (.int a1), some (.long (y2_58 ||| 0)), none, some (.int (y4_58 + 1))]) dX5_where_103 rfl (by decide) (by decide) rfl ?_
            refine tr_goto C (tgt := 58) dX5_where_106 (by decide) ?_
            exact IH58 (y2_58 ||| 0, y4_58 + 1)
    · refine tr_aload_n C (i := 0) dX5_where_44 rfl rfl ?_
      refine tr_iload_n C (i := 1) dX5_where_45 rfl rfl ?_
      refine tr_bipush C (v := 10) dX5_where_46 (by decide) ?_
      refine tr_isub C dX5_where_48 ?_
      refine tr_cVL C (av := [.int (a1 - 10)]) (st := []) (kX5_comes l g cs ad (a1 - 10) σ39) mwX5_comes w1324 rfl rfl ⟨rfl, rfl⟩ ⟨(Nat.le_of_ble_eq_true rfl), (Nat.le_of_ble_eq_true rfl)⟩ rfl rfl (Nat.le_of_ble_eq_true rfl) dX5_where_49 (fun r8 σ8 hr8 => ?_)
      exact tr_lret C hr hlk dX5_where_52
  refine tr_if_ne C (tgt := 39) dX5_where_7 (by decide) (fun q14 => ?_) (fun q14 => ?_)
  · refine tr_iload_n C (i := 1) dX5_where_10 rfl rfl ?_
    refine tr_i2l C dX5_where_11 ?_
    refine tr_ldc2 C (v := 10) w1107 dX5_where_12 ?_
    refine tr_ldc2 C (v := 17) w1275 dX5_where_15 ?_
    refine tr_cSIP C (av := [.long a1.toInt64, .long 10, .long 17]) (st := []) (kX5_in l g cs ad a1.toInt64 10 17 σ) mwX5_in w1084 ⟨rfl, rfl⟩ ⟨(Nat.le_of_ble_eq_true rfl), (Nat.le_of_ble_eq_true rfl)⟩ rfl rfl (Nat.le_of_ble_eq_true rfl) dX5_where_18 (fun r10 hr10 => ?_)
    refine tr_if_eq C (tgt := 35) dX5_where_21 (by decide) (fun q13 => ?_) (fun q13 => ?_)
    · refine tr_ldc2 C (v := -4611686018427387904) w1323 dX5_where_35 ?_
      exact tr_lret C hr hlk dX5_where_38
    · refine tr_aload_n C (i := 0) dX5_where_24 rfl rfl ?_
      refine tr_iload_n C (i := 1) dX5_where_25 rfl rfl ?_
      refine tr_bipush C (v := 10) dX5_where_26 (by decide) ?_
      refine tr_isub C dX5_where_28 ?_
      refine tr_cVIP C (av := [.int (a1 - 10)]) (st := []) (kX5_isOne l g cs ad (a1 - 10) σ) mwX5_isOne w1095 rfl rfl ⟨rfl, rfl⟩ ⟨(Nat.le_of_ble_eq_true rfl), (Nat.le_of_ble_eq_true rfl)⟩ rfl rfl (Nat.le_of_ble_eq_true rfl) dX5_where_29 (fun r11 hr11 => ?_)
      refine tr_if_ne C (tgt := 39) dX5_where_32 (by decide) (fun q12 => ?_) (fun q12 => ?_)
      · refine tr_ldc2 C (v := -4611686018427387904) w1323 dX5_where_35 ?_
        exact tr_lret C hr hlk dX5_where_38
      · exact B39 σ
  · exact B39 σ
def fX5_areTogether_L4 (a1 : Int32) (σ : Mem) (ih4 : Int32 × Int32 → Option (Int32)) : Int32 × Int32 → Option (Int32) := fun v => match v with
  | (y2_4, y3_4) =>
    if (σ.1 0 13) ≤ y3_4 then (
      some 1
    ) else (
      if ((a1 >>> (y3_4 &&& 31)) &&& 1) = 1 then (
        gd (inB y3_4 8) (
          if (rd σ 7 y3_4) = (-1) then (
            some 0
          ) else (
            if y2_4 = (-1) then (
              gd (inB y3_4 8) (
                ih4 (rd σ 7 y3_4, y3_4 + 1)
              )
            ) else (
              gd (inB y3_4 8) (
                if (rd σ 7 y3_4) = y2_4 then (
                  gd (inB y3_4 8) (
                    ih4 (rd σ 7 y3_4, y3_4 + 1)
                  )
                ) else (
                  some 0
                )
              )
            )
          )
        )
      ) else (
        ih4 (y2_4, y3_4 + 1)
      )
    )
def fX5_areTogether (a1 : Int32) (σ : Mem) : Option (Int32) :=
  loopN (fX5_areTogether_L4 a1 σ) 1000 (-1, 0)
set_option maxHeartbeats 4000000 in
set_option maxRecDepth 100000 in
theorem kX5_areTogether (l : Launch) (g : GG) (cs : CS) (ad : Nat → Nat) (a1 : Int32) (σ : Mem) : CtI l g cs ad (shM g) mX5_areTogether (.code mX5_areTogether cX5_areTogether 4 (some .boolean)) { frames := 0, cells := 0, slots := 0, locals := 0 } [.ref (ad 0), .int a1] σ (pur (fX5_areTogether a1 σ) σ) := by
  refine ctIP_intro (own := "KinInTheHeapModel") (by decide +kernel) rfl [some (.ref (ad 0)), some (.int a1), none, none] (Nat.le_of_ble_eq_true rfl) rfl ?_
  intro p e s m args below meth c A C hr hlk
  refine tr_iconst C (v := -1) dX5_areTogether_0 (by decide) ?_
  refine tr_istore_n C (i := 2) (lv' := [some (.ref (ad 0)), some (.int a1), some (.int (-1)), none]) dX5_areTogether_1 rfl (by decide) rfl ?_
  refine tr_iconst C (v := 0) dX5_areTogether_2 (by decide) ?_
  refine tr_istore_n C (i := 3) (lv' := [some (.ref (ad 0)), some (.int a1), some (.int (-1)), some (.int 0)]) dX5_areTogether_3 rfl (by decide) rfl ?_
  refine tr_loop (b := fX5_areTogether_L4 a1 σ) (sg := fun v => σ) (lw := fun v => [some (.ref (ad 0)), some (.int a1), some (.int v.1), some (.int v.2)]) (sw := fun v => []) (fun ih4 IH4 v => ?_) 1000 (-1, 0)
  obtain ⟨y2_4, y3_4⟩ := v
  refine tr_st (σ' := σ) (lv' := [some (.ref (ad 0)), some (.int a1), some (.int y2_4), some (.int y3_4)]) (st' := []) rfl rfl rfl ?_
  refine tr_iload_n C (i := 3) dX5_areTogether_4 rfl rfl ?_
  refine tr_aload_n C (i := 0) dX5_areTogether_5 rfl rfl ?_
  refine tr_getI C (k := 13) (ci := 5) rfl rfl rfl inT5 rfl (by decide) w961 dX5_areTogether_6 ?_
  refine tr_icmp_ge C (tgt := 61) dX5_areTogether_9 (by decide) (fun q9 => ?_) (fun q9 => ?_)
  · refine tr_iconst C (v := 1) dX5_areTogether_61 (by decide) ?_
    exact tr_zretP C hr hlk rfl dX5_areTogether_62
  · refine tr_iload_n C (i := 1) dX5_areTogether_12 rfl rfl ?_
    refine tr_iload_n C (i := 3) dX5_areTogether_13 rfl rfl ?_
    refine tr_ishr C dX5_areTogether_14 ?_
    refine tr_iconst C (v := 1) dX5_areTogether_15 (by decide) ?_
    refine tr_iand C dX5_areTogether_16 ?_
    refine tr_iconst C (v := 1) dX5_areTogether_17 (by decide) ?_
    refine tr_icmp_ne C (tgt := 55) dX5_areTogether_18 (by decide) (fun q8 => ?_) (fun q8 => ?_)
    · refine tr_aload_n C (i := 0) dX5_areTogether_21 rfl rfl ?_
      refine tr_getR C (k := 12) (ci := 5) rfl rfl rfl inT5 rfl (by decide) w960 dX5_areTogether_22 ?_
      refine tr_iload_n C (i := 3) dX5_areTogether_25 rfl rfl ?_
      refine tr_iald C (n := 8) rfl dX5_areTogether_26 (fun h7 => ?_)
      refine tr_iconst C (v := -1) dX5_areTogether_27 (by decide) ?_
      refine tr_icmp_eq C (tgt := 46) dX5_areTogether_28 (by decide) (fun q6 => ?_) (fun q6 => ?_)
      · refine tr_iconst C (v := 0) dX5_areTogether_46 (by decide) ?_
        exact tr_zretP C hr hlk rfl dX5_areTogether_47
      · refine tr_iload_n C (i := 2) dX5_areTogether_31 rfl rfl ?_
        refine tr_iconst C (v := -1) dX5_areTogether_32 (by decide) ?_
        refine tr_icmp_eq C (tgt := 48) dX5_areTogether_33 (by decide) (fun q5 => ?_) (fun q5 => ?_)
        · refine tr_aload_n C (i := 0) dX5_areTogether_48 rfl rfl ?_
          refine tr_getR C (k := 12) (ci := 5) rfl rfl rfl inT5 rfl (by decide) w960 dX5_areTogether_49 ?_
          refine tr_iload_n C (i := 3) dX5_areTogether_52 rfl rfl ?_
          refine tr_iald C (n := 8) rfl dX5_areTogether_53 (fun h1 => ?_)
          refine tr_istore_n C (i := 2) (lv' := [some (.ref (ad 0)), some (.int a1), some (.int (rd σ 7 y3_4)), some (.int y3_4)]) dX5_areTogether_54 rfl (by decide) rfl ?_
          refine tr_iinc C (i := 3) (d := 1) (lv' := [some (.ref (ad 0)), some (.int a1), some (.int (rd σ 7 y3_4)), some (.int (y3_4 + 1))]) dX5_areTogether_55 rfl (by decide) (by decide) rfl ?_
          refine tr_goto C (tgt := 4) dX5_areTogether_58 (by decide) ?_
          exact IH4 (rd σ 7 y3_4, y3_4 + 1)
        · refine tr_aload_n C (i := 0) dX5_areTogether_36 rfl rfl ?_
          refine tr_getR C (k := 12) (ci := 5) rfl rfl rfl inT5 rfl (by decide) w960 dX5_areTogether_37 ?_
          refine tr_iload_n C (i := 3) dX5_areTogether_40 rfl rfl ?_
          refine tr_iald C (n := 8) rfl dX5_areTogether_41 (fun h4 => ?_)
          refine tr_iload_n C (i := 2) dX5_areTogether_42 rfl rfl ?_
          refine tr_icmp_eq C (tgt := 48) dX5_areTogether_43 (by decide) (fun q3 => ?_) (fun q3 => ?_)
          · refine tr_aload_n C (i := 0) dX5_areTogether_48 rfl rfl ?_
            refine tr_getR C (k := 12) (ci := 5) rfl rfl rfl inT5 rfl (by decide) w960 dX5_areTogether_49 ?_
            refine tr_iload_n C (i := 3) dX5_areTogether_52 rfl rfl ?_
            refine tr_iald C (n := 8) rfl dX5_areTogether_53 (fun h2 => ?_)
            refine tr_istore_n C (i := 2) (lv' := [some (.ref (ad 0)), some (.int a1), some (.int (rd σ 7 y3_4)), some (.int y3_4)]) dX5_areTogether_54 rfl (by decide) rfl ?_
            refine tr_iinc C (i := 3) (d := 1) (lv' := [some (.ref (ad 0)), some (.int a1), some (.int (rd σ 7 y3_4)), some (.int (y3_4 + 1))]) dX5_areTogether_55 rfl (by decide) (by decide) rfl ?_
            refine tr_goto C (tgt := 4) dX5_areTogether_58 (by decide) ?_
            exact IH4 (rd σ 7 y3_4, y3_4 + 1)
          · refine tr_iconst C (v := 0) dX5_areTogether_46 (by decide) ?_
            exact tr_zretP C hr hlk rfl dX5_areTogether_47
    · refine tr_iinc C (i := 3) (d := 1) (lv' := [some (.ref (ad 0)), some (.int a1), some (.int y2_4), some (.int (y3_4 + 1))]) dX5_areTogether_55 rfl (by decide) (by decide) rfl ?_
      refine tr_goto C (tgt := 4) dX5_areTogether_58 (by decide) ?_
      exact IH4 (y2_4, y3_4 + 1)
def fX5_gathered_L63 (a1 : Int32) (ih63 : Mem × Int32 × Int32 → Option (Int32 × Mem)) : Mem × Int32 × Int32 → Option (Int32 × Mem) := fun v => match v with
  | (σ63, y2_63, y3_63) =>
    if 576 ≤ y3_63 then (
      some (y2_63, σ63)
    ) else (
      if y2_63 = (-1) then (
        bnd (fX5_strokes (y3_63 / 24) σ63) fun r3 σ3 => (
          bnd (fX5_strokes (y3_63 - y3_63 / 24 * 24) σ3) fun r4 σ4 => (
            bn1 (fX5_areTogether a1 σ4) fun r5 => (
              if r5 = 0 then (
                bn1 (fX5_laysBack σ4) fun σ6 => (
                  ih63 (σ6, -1, y3_63 + 1)
                )
              ) else (
                bn1 (fX5_laysBack σ4) fun σ7 => (
                  ih63 (σ7, ((100 * ((y3_63 / 24) + 1)) + (y3_63 - y3_63 / 24 * 24)) + 1, y3_63 + 1)
                )
              )
            )
          )
        )
      ) else (
        some (y2_63, σ63)
      )
    )
def fX5_gathered_L18 (a1 : Int32) (ih18 : Mem × Int32 × Int32 → Option (Int32 × Mem)) : Mem × Int32 × Int32 → Option (Int32 × Mem) := fun v => match v with
  | (σ18, y2_18, y3_18) =>
    if 24 ≤ y3_18 then (
      loopN (fX5_gathered_L63 a1) 1000 (σ18, y2_18, 0)
    ) else (
      if y2_18 = (-1) then (
        bnd (fX5_strokes y3_18 σ18) fun r19 σ19 => (
          bn1 (fX5_areTogether a1 σ19) fun r20 => (
            if r20 = 0 then (
              bn1 (fX5_laysBack σ19) fun σ21 => (
                ih18 (σ21, -1, y3_18 + 1)
              )
            ) else (
              bn1 (fX5_laysBack σ19) fun σ22 => (
                ih18 (σ22, y3_18 + 1, y3_18 + 1)
              )
            )
          )
        )
      ) else (
        loopN (fX5_gathered_L63 a1) 1000 (σ18, y2_18, 0)
      )
    )
def fX5_gathered (a1 : Int32) (σ : Mem) : Option (Int32 × Mem) :=
  bn1 (fX5_areTogether a1 σ) fun r1 => (
    if r1 = 0 then (
      bn1 (fX5_laysAside σ) fun σ2 => (
        loopN (fX5_gathered_L18 a1) 1000 (σ2, -1, 0)
      )
    ) else (
      some (0, σ)
    )
  )
set_option maxHeartbeats 4000000 in
set_option maxRecDepth 100000 in
theorem kX5_gathered (l : Launch) (g : GG) (cs : CS) (ad : Nat → Nat) (a1 : Int32) (σ : Mem) : CtI l g cs ad (shM g) mX5_gathered (.code mX5_gathered cX5_gathered 4 (some .int)) { frames := 79, cells := 0, slots := 0, locals := 2920 } [.ref (ad 0), .int a1] σ (fX5_gathered a1 σ) := by
  refine ctI_intro (own := "KinInTheHeapModel") (by decide +kernel) rfl [some (.ref (ad 0)), some (.int a1), none, none] (Nat.le_of_ble_eq_true rfl) rfl ?_
  intro p e s m args below meth c A C hr hlk
  refine tr_aload_n C (i := 0) dX5_gathered_0 rfl rfl ?_
  refine tr_iload_n C (i := 1) dX5_gathered_1 rfl rfl ?_
  refine tr_cVIP C (av := [.int a1]) (st := []) (kX5_areTogether l g cs ad a1 σ) mwX5_areTogether w1336 rfl rfl ⟨rfl, rfl⟩ ⟨(Nat.le_of_ble_eq_true rfl), (Nat.le_of_ble_eq_true rfl)⟩ rfl rfl (Nat.le_of_ble_eq_true rfl) dX5_gathered_2 (fun r1 hr1 => ?_)
  refine tr_if_eq C (tgt := 10) dX5_gathered_5 (by decide) (fun q26 => ?_) (fun q26 => ?_)
  · refine tr_aload_n C (i := 0) dX5_gathered_10 rfl rfl ?_
    refine tr_cVV C (av := []) (st := []) (kX5_laysAside l g cs ad σ) mwX5_laysAside w1280 rfl rfl ⟨rfl, rfl⟩ ⟨(Nat.le_of_ble_eq_true rfl), (Nat.le_of_ble_eq_true rfl)⟩ rfl rfl (Nat.le_of_ble_eq_true rfl) dX5_gathered_11 (fun σ2 hr2 => ?_)
    refine tr_iconst C (v := -1) dX5_gathered_14 (by decide) ?_
    refine tr_istore_n C (i := 2) (lv' := [some (.ref (ad 0)), some (.int a1), some (.int (-1)), none]) dX5_gathered_15 rfl (by decide) rfl ?_
    refine tr_iconst C (v := 0) dX5_gathered_16 (by decide) ?_
    refine tr_istore_n C (i := 3) (lv' := [some (.ref (ad 0)), some (.int a1), some (.int (-1)), some (.int 0)]) dX5_gathered_17 rfl (by decide) rfl ?_
    refine tr_loop (b := fX5_gathered_L18 a1) (sg := fun v => v.1) (lw := fun v => [some (.ref (ad 0)), some (.int a1), some (.int v.2.1), some (.int v.2.2)]) (sw := fun v => []) (fun ih18 IH18 v => ?_) 1000 (σ2, -1, 0)
    obtain ⟨σ18, y2_18, y3_18⟩ := v
    refine tr_st (σ' := σ18) (lv' := [some (.ref (ad 0)), some (.int a1), some (.int y2_18), some (.int y3_18)]) (st' := []) rfl rfl rfl ?_
    refine tr_iload_n C (i := 3) dX5_gathered_18 rfl rfl ?_
    refine tr_bipush C (v := 24) dX5_gathered_19 (by decide) ?_
    refine tr_icmp_ge C (tgt := 61) dX5_gathered_21 (by decide) (fun q25 => ?_) (fun q25 => ?_)
    · refine tr_iconst C (v := 0) dX5_gathered_61 (by decide) ?_
      refine tr_istore_n C (i := 3) (lv' := [some (.ref (ad 0)), some (.int a1), some (.int y2_18), some (.int 0)]) dX5_gathered_62 rfl (by decide) rfl ?_
      refine tr_loop (b := fX5_gathered_L63 a1) (sg := fun v => v.1) (lw := fun v => [some (.ref (ad 0)), some (.int a1), some (.int v.2.1), some (.int v.2.2)]) (sw := fun v => []) (fun ih63 IH63 v => ?_) 1000 (σ18, y2_18, 0)
      obtain ⟨σ63, y2_63, y3_63⟩ := v
      refine tr_st (σ' := σ63) (lv' := [some (.ref (ad 0)), some (.int a1), some (.int y2_63), some (.int y3_63)]) (st' := []) rfl rfl rfl ?_
      refine tr_iload_n C (i := 3) dX5_gathered_63 rfl rfl ?_
      refine tr_sipush C (v := 576) dX5_gathered_64 (by decide) ?_
      refine tr_icmp_ge C (tgt := 132) dX5_gathered_67 (by decide) (fun q10 => ?_) (fun q10 => ?_)
      · refine tr_iload_n C (i := 2) dX5_gathered_132 rfl rfl ?_
        exact tr_iret C hr hlk dX5_gathered_133
      · refine tr_iload_n C (i := 2) dX5_gathered_70 rfl rfl ?_
        refine tr_iconst C (v := -1) dX5_gathered_71 (by decide) ?_
        refine tr_icmp_ne C (tgt := 132) dX5_gathered_72 (by decide) (fun q9 => ?_) (fun q9 => ?_)
        · refine tr_aload_n C (i := 0) dX5_gathered_75 rfl rfl ?_
          refine tr_iload_n C (i := 3) dX5_gathered_76 rfl rfl ?_
          refine tr_bipush C (v := 24) dX5_gathered_77 (by decide) ?_
          refine tr_idivK C dX5_gathered_79 (by decide) ?_
          refine tr_cVI C (av := [.int (y3_63 / 24)]) (st := []) (kX5_strokes l g cs ad (y3_63 / 24) σ63) mwX5_strokes w1240 rfl rfl ⟨rfl, rfl⟩ ⟨(Nat.le_of_ble_eq_true rfl), (Nat.le_of_ble_eq_true rfl)⟩ rfl rfl (Nat.le_of_ble_eq_true rfl) dX5_gathered_80 (fun r3 σ3 hr3 => ?_)
          refine tr_pop C dX5_gathered_83 rfl ?_
          refine tr_aload_n C (i := 0) dX5_gathered_84 rfl rfl ?_
          refine tr_iload_n C (i := 3) dX5_gathered_85 rfl rfl ?_
          refine tr_bipush C (v := 24) dX5_gathered_86 (by decide) ?_
          refine tr_iremK C dX5_gathered_88 (by decide) ?_
          refine tr_cVI C (av := [.int (y3_63 - y3_63 / 24 * 24)]) (st := []) (kX5_strokes l g cs ad (y3_63 - y3_63 / 24 * 24) σ3) mwX5_strokes w1240 rfl rfl ⟨rfl, rfl⟩ ⟨(Nat.le_of_ble_eq_true rfl), (Nat.le_of_ble_eq_true rfl)⟩ rfl rfl (Nat.le_of_ble_eq_true rfl) dX5_gathered_89 (fun r4 σ4 hr4 => ?_)
          refine tr_pop C dX5_gathered_92 rfl ?_
          refine tr_aload_n C (i := 0) dX5_gathered_93 rfl rfl ?_
          refine tr_iload_n C (i := 1) dX5_gathered_94 rfl rfl ?_
          refine tr_cVIP C (av := [.int a1]) (st := []) (kX5_areTogether l g cs ad a1 σ4) mwX5_areTogether w1336 rfl rfl ⟨rfl, rfl⟩ ⟨(Nat.le_of_ble_eq_true rfl), (Nat.le_of_ble_eq_true rfl)⟩ rfl rfl (Nat.le_of_ble_eq_true rfl) dX5_gathered_95 (fun r5 hr5 => ?_)
          refine tr_if_eq C (tgt := 120) dX5_gathered_98 (by decide) (fun q8 => ?_) (fun q8 => ?_)
          · refine tr_iconst C (v := -1) dX5_gathered_120 (by decide) ?_
            refine tr_istore_n C (i := 2) (lv' := [some (.ref (ad 0)), some (.int a1), some (.int (-1)), some (.int y3_63)]) dX5_gathered_121 rfl (by decide) rfl ?_
            refine tr_aload_n C (i := 0) dX5_gathered_122 rfl rfl ?_
            refine tr_cVV C (av := []) (st := []) (kX5_laysBack l g cs ad σ4) mwX5_laysBack w1303 rfl rfl ⟨rfl, rfl⟩ ⟨(Nat.le_of_ble_eq_true rfl), (Nat.le_of_ble_eq_true rfl)⟩ rfl rfl (Nat.le_of_ble_eq_true rfl) dX5_gathered_123 (fun σ6 hr6 => ?_)
            refine tr_iinc C (i := 3) (d := 1) (lv' := [some (.ref (ad 0)), some (.int a1), some (.int (-1)), some (.int (y3_63 + 1))]) dX5_gathered_126 rfl (by decide) (by decide) rfl ?_
            refine tr_goto C (tgt := 63) dX5_gathered_129 (by decide) ?_
            exact IH63 (σ6, -1, y3_63 + 1)
          · refine tr_bipush C (v := 100) dX5_gathered_101 (by decide) ?_
            refine tr_iload_n C (i := 3) dX5_gathered_103 rfl rfl ?_
            refine tr_bipush C (v := 24) dX5_gathered_104 (by decide) ?_
            refine tr_idivK C dX5_gathered_106 (by decide) ?_
            refine tr_iconst C (v := 1) dX5_gathered_107 (by decide) ?_
            refine tr_iadd C dX5_gathered_108 ?_
            refine tr_imul C dX5_gathered_109 ?_
            refine tr_iload_n C (i := 3) dX5_gathered_110 rfl rfl ?_
            refine tr_bipush C (v := 24) dX5_gathered_111 (by decide) ?_
            refine tr_iremK C dX5_gathered_113 (by decide) ?_
            refine tr_iadd C dX5_gathered_114 ?_
            refine tr_iconst C (v := 1) dX5_gathered_115 (by decide) ?_
            refine tr_iadd C dX5_gathered_116 ?_
            refine tr_goto C (tgt := 121) dX5_gathered_117 (by decide) ?_
            refine tr_istore_n C (i := 2) (lv' := [some (.ref (ad 0)), some (.int a1), some (.int (((100 * ((y3_63 / 24) + 1)) + (y3_63 - y3_63 / 24 * 24)) + 1)), some (.int y3_63)]) dX5_gathered_121 rfl (by decide) rfl ?_
            refine tr_aload_n C (i := 0) dX5_gathered_122 rfl rfl ?_
            refine tr_cVV C (av := []) (st := []) (kX5_laysBack l g cs ad σ4) mwX5_laysBack w1303 rfl rfl ⟨rfl, rfl⟩ ⟨(Nat.le_of_ble_eq_true rfl), (Nat.le_of_ble_eq_true rfl)⟩ rfl rfl (Nat.le_of_ble_eq_true rfl) dX5_gathered_123 (fun σ7 hr7 => ?_)
            refine tr_iinc C (i := 3) (d := 1) (lv' := [some (.ref (ad 0)), some (.int a1), some (.int (((100 * ((y3_63 / 24) + 1)) + (y3_63 - y3_63 / 24 * 24)) + 1)), some (.int (y3_63 + 1))]) dX5_gathered_126 rfl (by decide) (by decide) rfl ?_
            refine tr_goto C (tgt := 63) dX5_gathered_129 (by decide) ?_
            exact IH63 (σ7, ((100 * ((y3_63 / 24) + 1)) + (y3_63 - y3_63 / 24 * 24)) + 1, y3_63 + 1)
        · refine tr_iload_n C (i := 2) dX5_gathered_132 rfl rfl ?_
          exact tr_iret C hr hlk dX5_gathered_133
    · refine tr_iload_n C (i := 2) dX5_gathered_24 rfl rfl ?_
      refine tr_iconst C (v := -1) dX5_gathered_25 (by decide) ?_
      refine tr_icmp_ne C (tgt := 61) dX5_gathered_26 (by decide) (fun q24 => ?_) (fun q24 => ?_)
      · refine tr_aload_n C (i := 0) dX5_gathered_29 rfl rfl ?_
        refine tr_iload_n C (i := 3) dX5_gathered_30 rfl rfl ?_
        refine tr_cVI C (av := [.int y3_18]) (st := []) (kX5_strokes l g cs ad y3_18 σ18) mwX5_strokes w1240 rfl rfl ⟨rfl, rfl⟩ ⟨(Nat.le_of_ble_eq_true rfl), (Nat.le_of_ble_eq_true rfl)⟩ rfl rfl (Nat.le_of_ble_eq_true rfl) dX5_gathered_31 (fun r19 σ19 hr19 => ?_)
        refine tr_pop C dX5_gathered_34 rfl ?_
        refine tr_aload_n C (i := 0) dX5_gathered_35 rfl rfl ?_
        refine tr_iload_n C (i := 1) dX5_gathered_36 rfl rfl ?_
        refine tr_cVIP C (av := [.int a1]) (st := []) (kX5_areTogether l g cs ad a1 σ19) mwX5_areTogether w1336 rfl rfl ⟨rfl, rfl⟩ ⟨(Nat.le_of_ble_eq_true rfl), (Nat.le_of_ble_eq_true rfl)⟩ rfl rfl (Nat.le_of_ble_eq_true rfl) dX5_gathered_37 (fun r20 hr20 => ?_)
        refine tr_if_eq C (tgt := 49) dX5_gathered_40 (by decide) (fun q23 => ?_) (fun q23 => ?_)
        · refine tr_iconst C (v := -1) dX5_gathered_49 (by decide) ?_
          refine tr_istore_n C (i := 2) (lv' := [some (.ref (ad 0)), some (.int a1), some (.int (-1)), some (.int y3_18)]) dX5_gathered_50 rfl (by decide) rfl ?_
          refine tr_aload_n C (i := 0) dX5_gathered_51 rfl rfl ?_
          refine tr_cVV C (av := []) (st := []) (kX5_laysBack l g cs ad σ19) mwX5_laysBack w1303 rfl rfl ⟨rfl, rfl⟩ ⟨(Nat.le_of_ble_eq_true rfl), (Nat.le_of_ble_eq_true rfl)⟩ rfl rfl (Nat.le_of_ble_eq_true rfl) dX5_gathered_52 (fun σ21 hr21 => ?_)
          refine tr_iinc C (i := 3) (d := 1) (lv' := [some (.ref (ad 0)), some (.int a1), some (.int (-1)), some (.int (y3_18 + 1))]) dX5_gathered_55 rfl (by decide) (by decide) rfl ?_
          refine tr_goto C (tgt := 18) dX5_gathered_58 (by decide) ?_
          exact IH18 (σ21, -1, y3_18 + 1)
        · refine tr_iload_n C (i := 3) dX5_gathered_43 rfl rfl ?_
          refine tr_iconst C (v := 1) dX5_gathered_44 (by decide) ?_
          refine tr_iadd C dX5_gathered_45 ?_
          refine tr_goto C (tgt := 50) dX5_gathered_46 (by decide) ?_
          refine tr_istore_n C (i := 2) (lv' := [some (.ref (ad 0)), some (.int a1), some (.int (y3_18 + 1)), some (.int y3_18)]) dX5_gathered_50 rfl (by decide) rfl ?_
          refine tr_aload_n C (i := 0) dX5_gathered_51 rfl rfl ?_
          refine tr_cVV C (av := []) (st := []) (kX5_laysBack l g cs ad σ19) mwX5_laysBack w1303 rfl rfl ⟨rfl, rfl⟩ ⟨(Nat.le_of_ble_eq_true rfl), (Nat.le_of_ble_eq_true rfl)⟩ rfl rfl (Nat.le_of_ble_eq_true rfl) dX5_gathered_52 (fun σ22 hr22 => ?_)
          refine tr_iinc C (i := 3) (d := 1) (lv' := [some (.ref (ad 0)), some (.int a1), some (.int (y3_18 + 1)), some (.int (y3_18 + 1))]) dX5_gathered_55 rfl (by decide) (by decide) rfl ?_
          refine tr_goto C (tgt := 18) dX5_gathered_58 (by decide) ?_
          exact IH18 (σ22, y3_18 + 1, y3_18 + 1)
      · refine tr_iconst C (v := 0) dX5_gathered_61 (by decide) ?_
        refine tr_istore_n C (i := 3) (lv' := [some (.ref (ad 0)), some (.int a1), some (.int y2_18), some (.int 0)]) dX5_gathered_62 rfl (by decide) rfl ?_
        refine tr_loop (b := fX5_gathered_L63 a1) (sg := fun v => v.1) (lw := fun v => [some (.ref (ad 0)), some (.int a1), some (.int v.2.1), some (.int v.2.2)]) (sw := fun v => []) (fun ih63 IH63 v => ?_) 1000 (σ18, y2_18, 0)
        obtain ⟨σ63, y2_63, y3_63⟩ := v
        refine tr_st (σ' := σ63) (lv' := [some (.ref (ad 0)), some (.int a1), some (.int y2_63), some (.int y3_63)]) (st' := []) rfl rfl rfl ?_
        refine tr_iload_n C (i := 3) dX5_gathered_63 rfl rfl ?_
        refine tr_sipush C (v := 576) dX5_gathered_64 (by decide) ?_
        refine tr_icmp_ge C (tgt := 132) dX5_gathered_67 (by decide) (fun q18 => ?_) (fun q18 => ?_)
        · refine tr_iload_n C (i := 2) dX5_gathered_132 rfl rfl ?_
          exact tr_iret C hr hlk dX5_gathered_133
        · refine tr_iload_n C (i := 2) dX5_gathered_70 rfl rfl ?_
          refine tr_iconst C (v := -1) dX5_gathered_71 (by decide) ?_
          refine tr_icmp_ne C (tgt := 132) dX5_gathered_72 (by decide) (fun q17 => ?_) (fun q17 => ?_)
          · refine tr_aload_n C (i := 0) dX5_gathered_75 rfl rfl ?_
            refine tr_iload_n C (i := 3) dX5_gathered_76 rfl rfl ?_
            refine tr_bipush C (v := 24) dX5_gathered_77 (by decide) ?_
            refine tr_idivK C dX5_gathered_79 (by decide) ?_
            refine tr_cVI C (av := [.int (y3_63 / 24)]) (st := []) (kX5_strokes l g cs ad (y3_63 / 24) σ63) mwX5_strokes w1240 rfl rfl ⟨rfl, rfl⟩ ⟨(Nat.le_of_ble_eq_true rfl), (Nat.le_of_ble_eq_true rfl)⟩ rfl rfl (Nat.le_of_ble_eq_true rfl) dX5_gathered_80 (fun r11 σ11 hr11 => ?_)
            refine tr_pop C dX5_gathered_83 rfl ?_
            refine tr_aload_n C (i := 0) dX5_gathered_84 rfl rfl ?_
            refine tr_iload_n C (i := 3) dX5_gathered_85 rfl rfl ?_
            refine tr_bipush C (v := 24) dX5_gathered_86 (by decide) ?_
            refine tr_iremK C dX5_gathered_88 (by decide) ?_
            refine tr_cVI C (av := [.int (y3_63 - y3_63 / 24 * 24)]) (st := []) (kX5_strokes l g cs ad (y3_63 - y3_63 / 24 * 24) σ11) mwX5_strokes w1240 rfl rfl ⟨rfl, rfl⟩ ⟨(Nat.le_of_ble_eq_true rfl), (Nat.le_of_ble_eq_true rfl)⟩ rfl rfl (Nat.le_of_ble_eq_true rfl) dX5_gathered_89 (fun r12 σ12 hr12 => ?_)
            refine tr_pop C dX5_gathered_92 rfl ?_
            refine tr_aload_n C (i := 0) dX5_gathered_93 rfl rfl ?_
            refine tr_iload_n C (i := 1) dX5_gathered_94 rfl rfl ?_
            refine tr_cVIP C (av := [.int a1]) (st := []) (kX5_areTogether l g cs ad a1 σ12) mwX5_areTogether w1336 rfl rfl ⟨rfl, rfl⟩ ⟨(Nat.le_of_ble_eq_true rfl), (Nat.le_of_ble_eq_true rfl)⟩ rfl rfl (Nat.le_of_ble_eq_true rfl) dX5_gathered_95 (fun r13 hr13 => ?_)
            refine tr_if_eq C (tgt := 120) dX5_gathered_98 (by decide) (fun q16 => ?_) (fun q16 => ?_)
            · refine tr_iconst C (v := -1) dX5_gathered_120 (by decide) ?_
              refine tr_istore_n C (i := 2) (lv' := [some (.ref (ad 0)), some (.int a1), some (.int (-1)), some (.int y3_63)]) dX5_gathered_121 rfl (by decide) rfl ?_
              refine tr_aload_n C (i := 0) dX5_gathered_122 rfl rfl ?_
              refine tr_cVV C (av := []) (st := []) (kX5_laysBack l g cs ad σ12) mwX5_laysBack w1303 rfl rfl ⟨rfl, rfl⟩ ⟨(Nat.le_of_ble_eq_true rfl), (Nat.le_of_ble_eq_true rfl)⟩ rfl rfl (Nat.le_of_ble_eq_true rfl) dX5_gathered_123 (fun σ14 hr14 => ?_)
              refine tr_iinc C (i := 3) (d := 1) (lv' := [some (.ref (ad 0)), some (.int a1), some (.int (-1)), some (.int (y3_63 + 1))]) dX5_gathered_126 rfl (by decide) (by decide) rfl ?_
              refine tr_goto C (tgt := 63) dX5_gathered_129 (by decide) ?_
              exact IH63 (σ14, -1, y3_63 + 1)
            · refine tr_bipush C (v := 100) dX5_gathered_101 (by decide) ?_
              refine tr_iload_n C (i := 3) dX5_gathered_103 rfl rfl ?_
              refine tr_bipush C (v := 24) dX5_gathered_104 (by decide) ?_
              refine tr_idivK C dX5_gathered_106 (by decide) ?_
              refine tr_iconst C (v := 1) dX5_gathered_107 (by decide) ?_
              refine tr_iadd C dX5_gathered_108 ?_
              refine tr_imul C dX5_gathered_109 ?_
              refine tr_iload_n C (i := 3) dX5_gathered_110 rfl rfl ?_
              refine tr_bipush C (v := 24) dX5_gathered_111 (by decide) ?_
              refine tr_iremK C dX5_gathered_113 (by decide) ?_
              refine tr_iadd C dX5_gathered_114 ?_
              refine tr_iconst C (v := 1) dX5_gathered_115 (by decide) ?_
              refine tr_iadd C dX5_gathered_116 ?_
              refine tr_goto C (tgt := 121) dX5_gathered_117 (by decide) ?_
              refine tr_istore_n C (i := 2) (lv' := [some (.ref (ad 0)), some (.int a1), some (.int (((100 * ((y3_63 / 24) + 1)) + (y3_63 - y3_63 / 24 * 24)) + 1)), some (.int y3_63)]) dX5_gathered_121 rfl (by decide) rfl ?_
              refine tr_aload_n C (i := 0) dX5_gathered_122 rfl rfl ?_
              refine tr_cVV C (av := []) (st := []) (kX5_laysBack l g cs ad σ12) mwX5_laysBack w1303 rfl rfl ⟨rfl, rfl⟩ ⟨(Nat.le_of_ble_eq_true rfl), (Nat.le_of_ble_eq_true rfl)⟩ rfl rfl (Nat.le_of_ble_eq_true rfl) dX5_gathered_123 (fun σ15 hr15 => ?_)
              refine tr_iinc C (i := 3) (d := 1) (lv' := [some (.ref (ad 0)), some (.int a1), some (.int (((100 * ((y3_63 / 24) + 1)) + (y3_63 - y3_63 / 24 * 24)) + 1)), some (.int (y3_63 + 1))]) dX5_gathered_126 rfl (by decide) (by decide) rfl ?_
              refine tr_goto C (tgt := 63) dX5_gathered_129 (by decide) ?_
              exact IH63 (σ15, ((100 * ((y3_63 / 24) + 1)) + (y3_63 - y3_63 / 24 * 24)) + 1, y3_63 + 1)
          · refine tr_iload_n C (i := 2) dX5_gathered_132 rfl rfl ?_
            exact tr_iret C hr hlk dX5_gathered_133
  · refine tr_iconst C (v := 0) dX5_gathered_8 (by decide) ?_
    exact tr_iret C hr hlk dX5_gathered_9
def fX5_gather (a1 : Int32) (a2 : Int32) (σ : Mem) : Option (Int32 × Mem) :=
  bn1 (fX5_in a1.toInt64 1 (((1 <<< ((σ.1 0 13) &&& 31)) - 1).toInt64) σ) fun r1 => (
    if r1 = 0 then (
      some (-2, σ)
    ) else (
      bn1 (fX5_in a2.toInt64 0 1 σ) fun r2 => (
        if r2 = 0 then (
          some (-2, σ)
        ) else (
          bnd (fX5_gathered a1 σ) fun r3 σ3 => (
            if r3 = (-1) then (
              some (r3, σ3)
            ) else (
              if a2 = 1 then (
                some (r3, σ3)
              ) else (
                if r3 = 0 then (
                  some (0, σ3)
                ) else (
                  if 100 ≤ r3 then (
                    some (2, σ3)
                  ) else (
                    some (1, σ3)
                  )
                )
              )
            )
          )
        )
      )
    )
  )
set_option maxHeartbeats 4000000 in
set_option maxRecDepth 100000 in
theorem kX5_gather (l : Launch) (g : GG) (cs : CS) (ad : Nat → Nat) (a1 : Int32) (a2 : Int32) (σ : Mem) : CtI l g cs ad (shM g) mX5_gather (.code mX5_gather cX5_gather 4 (some .int)) { frames := 80, cells := 0, slots := 0, locals := 2943 } [.ref (ad 0), .int a1, .int a2] σ (fX5_gather a1 a2 σ) := by
  refine ctI_intro (own := "KinInTheHeapModel") (by decide +kernel) rfl [some (.ref (ad 0)), some (.int a1), some (.int a2), none] (Nat.le_of_ble_eq_true rfl) rfl ?_
  intro p e s m args below meth c A C hr hlk
  refine tr_iload_n C (i := 1) dX5_gather_0 rfl rfl ?_
  refine tr_i2l C dX5_gather_1 ?_
  refine tr_lconst C (v := 1) dX5_gather_2 (by decide) ?_
  refine tr_iconst C (v := 1) dX5_gather_3 (by decide) ?_
  refine tr_aload_n C (i := 0) dX5_gather_4 rfl rfl ?_
  refine tr_getI C (k := 13) (ci := 5) rfl rfl rfl inT5 rfl (by decide) w961 dX5_gather_5 ?_
  refine tr_ishl C dX5_gather_8 ?_
  refine tr_iconst C (v := 1) dX5_gather_9 (by decide) ?_
  refine tr_isub C dX5_gather_10 ?_
  refine tr_i2l C dX5_gather_11 ?_
  refine tr_cSIP C (av := [.long a1.toInt64, .long 1, .long (((1 <<< ((σ.1 0 13) &&& 31)) - 1).toInt64)]) (st := []) (kX5_in l g cs ad a1.toInt64 1 (((1 <<< ((σ.1 0 13) &&& 31)) - 1).toInt64) σ) mwX5_in w1084 ⟨rfl, rfl⟩ ⟨(Nat.le_of_ble_eq_true rfl), (Nat.le_of_ble_eq_true rfl)⟩ rfl rfl (Nat.le_of_ble_eq_true rfl) dX5_gather_12 (fun r1 hr1 => ?_)
  refine tr_if_eq C (tgt := 28) dX5_gather_15 (by decide) (fun q9 => ?_) (fun q9 => ?_)
  · refine tr_bipush C (v := -2) dX5_gather_28 (by decide) ?_
    exact tr_iret C hr hlk dX5_gather_30
  · refine tr_iload_n C (i := 2) dX5_gather_18 rfl rfl ?_
    refine tr_i2l C dX5_gather_19 ?_
    refine tr_lconst C (v := 0) dX5_gather_20 (by decide) ?_
    refine tr_lconst C (v := 1) dX5_gather_21 (by decide) ?_
    refine tr_cSIP C (av := [.long a2.toInt64, .long 0, .long 1]) (st := []) (kX5_in l g cs ad a2.toInt64 0 1 σ) mwX5_in w1084 ⟨rfl, rfl⟩ ⟨(Nat.le_of_ble_eq_true rfl), (Nat.le_of_ble_eq_true rfl)⟩ rfl rfl (Nat.le_of_ble_eq_true rfl) dX5_gather_22 (fun r2 hr2 => ?_)
    refine tr_if_ne C (tgt := 31) dX5_gather_25 (by decide) (fun q8 => ?_) (fun q8 => ?_)
    · refine tr_bipush C (v := -2) dX5_gather_28 (by decide) ?_
      exact tr_iret C hr hlk dX5_gather_30
    · refine tr_aload_n C (i := 0) dX5_gather_31 rfl rfl ?_
      refine tr_iload_n C (i := 1) dX5_gather_32 rfl rfl ?_
      refine tr_cVI C (av := [.int a1]) (st := []) (kX5_gathered l g cs ad a1 σ) mwX5_gathered w1332 rfl rfl ⟨rfl, rfl⟩ ⟨(Nat.le_of_ble_eq_true rfl), (Nat.le_of_ble_eq_true rfl)⟩ rfl rfl (Nat.le_of_ble_eq_true rfl) dX5_gather_33 (fun r3 σ3 hr3 => ?_)
      refine tr_istore_n C (i := 3) (lv' := [some (.ref (ad 0)), some (.int a1), some (.int a2), some (.int r3)]) dX5_gather_36 rfl (by decide) rfl ?_
      refine tr_iload_n C (i := 3) dX5_gather_37 rfl rfl ?_
      refine tr_iconst C (v := -1) dX5_gather_38 (by decide) ?_
      refine tr_icmp_eq C (tgt := 47) dX5_gather_39 (by decide) (fun q7 => ?_) (fun q7 => ?_)
      · refine tr_iload_n C (i := 3) dX5_gather_47 rfl rfl ?_
        refine tr_goto C (tgt := 70) dX5_gather_48 (by decide) ?_
        exact tr_iret C hr hlk dX5_gather_70
      · refine tr_iload_n C (i := 2) dX5_gather_42 rfl rfl ?_
        refine tr_iconst C (v := 1) dX5_gather_43 (by decide) ?_
        refine tr_icmp_ne C (tgt := 51) dX5_gather_44 (by decide) (fun q6 => ?_) (fun q6 => ?_)
        · refine tr_iload_n C (i := 3) dX5_gather_47 rfl rfl ?_
          refine tr_goto C (tgt := 70) dX5_gather_48 (by decide) ?_
          exact tr_iret C hr hlk dX5_gather_70
        · refine tr_iload_n C (i := 3) dX5_gather_51 rfl rfl ?_
          refine tr_if_ne C (tgt := 59) dX5_gather_52 (by decide) (fun q5 => ?_) (fun q5 => ?_)
          · refine tr_iconst C (v := 0) dX5_gather_55 (by decide) ?_
            refine tr_goto C (tgt := 70) dX5_gather_56 (by decide) ?_
            exact tr_iret C hr hlk dX5_gather_70
          · refine tr_iload_n C (i := 3) dX5_gather_59 rfl rfl ?_
            refine tr_bipush C (v := 100) dX5_gather_60 (by decide) ?_
            refine tr_icmp_ge C (tgt := 69) dX5_gather_62 (by decide) (fun q4 => ?_) (fun q4 => ?_)
            · refine tr_iconst C (v := 2) dX5_gather_69 (by decide) ?_
              exact tr_iret C hr hlk dX5_gather_70
            · refine tr_iconst C (v := 1) dX5_gather_65 (by decide) ?_
              refine tr_goto C (tgt := 70) dX5_gather_66 (by decide) ?_
              exact tr_iret C hr hlk dX5_gather_70
def fX5_lostFirst_b113 (a1 : Int32) (σ113 : Mem) (y2_113 : Int32) (y3_113 : Int32) : Option (Int32 × Mem) :=
  if a1 = 4 then (
    some (y2_113, σ113)
  ) else (
    some (y3_113, σ113)
  )
def fX5_lostFirst_b75 (a1 : Int32) (ih11 : Mem × Int32 × Int32 × Int32 → Option (Int32 × Mem)) (σ75 : Mem) (y2_75 : Int32) (y3_75 : Int32) (y4_75 : Int32) (y5_75 : Int32) : Option (Int32 × Mem) :=
  bn1 (fX5_outMany σ75) fun r4 => (
    bn1 (fX5_laysBack σ75) fun σ5 => (
      if y5_75 = 0 then (
        ih11 (σ5, y2_75, y3_75, y4_75 + 1)
      ) else (
        if y2_75 = (-1) then (
          ih11 (σ5, y4_75, r4, y4_75 + 1)
        ) else (
          if y3_75 ≤ r4 then (
            ih11 (σ5, y2_75, y3_75, y4_75 + 1)
          ) else (
            ih11 (σ5, y4_75, r4, y4_75 + 1)
          )
        )
      )
    )
  )
def fX5_lostFirst_L31 (a1 : Int32) (ih11 : Mem × Int32 × Int32 × Int32 → Option (Int32 × Mem)) (σ31 : Mem) (ih31 : Int32 × Int32 × Int32 × Int32 × Int32 → Option (Int32 × Mem)) : Int32 × Int32 × Int32 × Int32 × Int32 → Option (Int32 × Mem) := fun v => match v with
  | (y2_31, y3_31, y4_31, y5_31, y6_31) =>
    if (σ31.1 0 13) ≤ y6_31 then (
      fX5_lostFirst_b75 a1 ih11 σ31 y2_31 y3_31 y4_31 y5_31
    ) else (
      if y5_31 = 0 then (
        gd (inB y6_31 8) (
          gd (inB y6_31 8) (
            if (rd σ31 7 y6_31) = (rd σ31 9 y6_31) then (
              ih31 (y2_31, y3_31, y4_31, 0, y6_31 + 1)
            ) else (
              ih31 (y2_31, y3_31, y4_31, 1, y6_31 + 1)
            )
          )
        )
      ) else (
        ih31 (y2_31, y3_31, y4_31, 1, y6_31 + 1)
      )
    )
def fX5_lostFirst_L11 (a1 : Int32) (ih11 : Mem × Int32 × Int32 × Int32 → Option (Int32 × Mem)) : Mem × Int32 × Int32 × Int32 → Option (Int32 × Mem) := fun v => match v with
  | (σ11, y2_11, y3_11, y4_11) =>
    if 24 ≤ y4_11 then (
      fX5_lostFirst_b113 a1 σ11 y2_11 y3_11
    ) else (
      bnd (fX5_strokes y4_11 σ11) fun r3 σ3 => (
        loopN (fX5_lostFirst_L31 a1 ih11 σ3) 1000 (y2_11, y3_11, y4_11, 0, 0)
      )
    )
def fX5_lostFirst (a1 : Int32) (σ : Mem) : Option (Int32 × Mem) :=
  bn1 (fX5_laysAside σ) fun σ1 => (
    loopN (fX5_lostFirst_L11 a1) 1000 (σ1, -1, -1, 0)
  )
set_option maxHeartbeats 4000000 in
set_option maxRecDepth 100000 in
theorem kX5_lostFirst (l : Launch) (g : GG) (cs : CS) (ad : Nat → Nat) (a1 : Int32) (σ : Mem) : CtI l g cs ad (shM g) mX5_lostFirst (.code mX5_lostFirst cX5_lostFirst 7 (some .int)) { frames := 79, cells := 0, slots := 0, locals := 2920 } [.ref (ad 0), .int a1] σ (fX5_lostFirst a1 σ) := by
  refine ctI_intro (own := "KinInTheHeapModel") (by decide +kernel) rfl [some (.ref (ad 0)), some (.int a1), none, none, none, none, none] (Nat.le_of_ble_eq_true rfl) rfl ?_
  intro p e s m args below meth c A C hr hlk
  refine tr_aload_n C (i := 0) dX5_lostFirst_0 rfl rfl ?_
  refine tr_cVV C (av := []) (st := []) (kX5_laysAside l g cs ad σ) mwX5_laysAside w1280 rfl rfl ⟨rfl, rfl⟩ ⟨(Nat.le_of_ble_eq_true rfl), (Nat.le_of_ble_eq_true rfl)⟩ rfl rfl (Nat.le_of_ble_eq_true rfl) dX5_lostFirst_1 (fun σ1 hr1 => ?_)
  refine tr_iconst C (v := -1) dX5_lostFirst_4 (by decide) ?_
  refine tr_istore_n C (i := 2) (lv' := [some (.ref (ad 0)), some (.int a1), some (.int (-1)), none, none, none, none]) dX5_lostFirst_5 rfl (by decide) rfl ?_
  refine tr_iconst C (v := -1) dX5_lostFirst_6 (by decide) ?_
  refine tr_istore_n C (i := 3) (lv' := [some (.ref (ad 0)), some (.int a1), some (.int (-1)), some (.int (-1)), none, none, none]) dX5_lostFirst_7 rfl (by decide) rfl ?_
  refine tr_iconst C (v := 0) dX5_lostFirst_8 (by decide) ?_
  refine tr_istore C (i := 4) (lv' := [some (.ref (ad 0)), some (.int a1), some (.int (-1)), some (.int (-1)), some (.int 0), none, none]) dX5_lostFirst_9 (by decide) rfl ?_
  refine tr_loop (b := fX5_lostFirst_L11 a1) (sg := fun v => v.1) (lw := fun v => [some (.ref (ad 0)), some (.int a1), some (.int v.2.1), some (.int v.2.2.1), some (.int v.2.2.2), none, none]) (sw := fun v => []) (fun ih11 IH11 v => ?_) 1000 (σ1, -1, -1, 0)
  obtain ⟨σ11, y2_11, y3_11, y4_11⟩ := v
  refine tr_st (σ' := σ11) (lv' := [some (.ref (ad 0)), some (.int a1), some (.int y2_11), some (.int y3_11), some (.int y4_11), none, none]) (st' := []) rfl rfl rfl ?_
  refine tr_iload C (i := 4) dX5_lostFirst_11 rfl ?_
  refine tr_bipush C (v := 24) dX5_lostFirst_13 (by decide) ?_
  have B113 : ∀ (σ113 : Mem) (y2_113 : Int32) (y3_113 : Int32), Tr p l e { frames := 79, cells := 0, slots := 0, locals := 2920 } s m args below meth c g ad (shM g) A 7 (QI g ad (shM g) A below args s) (fX5_lostFirst_b113 a1 σ113 y2_113 y3_113) σ113 113 [none, some (.int a1), some (.int y2_113), some (.int y3_113), none, none, none] [] := by
    intro σ113 y2_113 y3_113
    refine tr_iload_n C (i := 1) dX5_lostFirst_113 rfl rfl ?_
    refine tr_iconst C (v := 4) dX5_lostFirst_114 (by decide) ?_
    refine tr_icmp_ne C (tgt := 122) dX5_lostFirst_115 (by decide) (fun q2 => ?_) (fun q2 => ?_)
    · refine tr_iload_n C (i := 2) dX5_lostFirst_118 rfl rfl ?_
      refine tr_goto C (tgt := 123) dX5_lostFirst_119 (by decide) ?_
      exact tr_iret C hr hlk dX5_lostFirst_123
    · refine tr_iload_n C (i := 3) dX5_lostFirst_122 rfl rfl ?_
      exact tr_iret C hr hlk dX5_lostFirst_123
  refine tr_icmp_ge C (tgt := 113) dX5_lostFirst_15 (by decide) (fun q14 => ?_) (fun q14 => ?_)
  · refine tr_mask [false, true, true, true, false, false, false] rfl ?_
    exact B113 σ11 y2_11 y3_11
  · refine tr_aload_n C (i := 0) dX5_lostFirst_18 rfl rfl ?_
    refine tr_iload C (i := 4) dX5_lostFirst_19 rfl ?_
    refine tr_cVI C (av := [.int y4_11]) (st := []) (kX5_strokes l g cs ad y4_11 σ11) mwX5_strokes w1240 rfl rfl ⟨rfl, rfl⟩ ⟨(Nat.le_of_ble_eq_true rfl), (Nat.le_of_ble_eq_true rfl)⟩ rfl rfl (Nat.le_of_ble_eq_true rfl) dX5_lostFirst_21 (fun r3 σ3 hr3 => ?_)
    refine tr_pop C dX5_lostFirst_24 rfl ?_
    refine tr_iconst C (v := 0) dX5_lostFirst_25 (by decide) ?_
    refine tr_istore C (i := 5) (lv' := [some (.ref (ad 0)), some (.int a1), some (.int y2_11), some (.int y3_11), some (.int y4_11), some (.int 0), none]) dX5_lostFirst_26 (by decide) rfl ?_
    refine tr_iconst C (v := 0) dX5_lostFirst_28 (by decide) ?_
    refine tr_istore C (i := 6) (lv' := [some (.ref (ad 0)), some (.int a1), some (.int y2_11), some (.int y3_11), some (.int y4_11), some (.int 0), some (.int 0)]) dX5_lostFirst_29 (by decide) rfl ?_
    refine tr_loop (b := fX5_lostFirst_L31 a1 ih11 σ3) (sg := fun v => σ3) (lw := fun v => [some (.ref (ad 0)), some (.int a1), some (.int v.1), some (.int v.2.1), some (.int v.2.2.1), some (.int v.2.2.2.1), some (.int v.2.2.2.2)]) (sw := fun v => []) (fun ih31 IH31 v => ?_) 1000 (y2_11, y3_11, y4_11, 0, 0)
    obtain ⟨y2_31, y3_31, y4_31, y5_31, y6_31⟩ := v
    refine tr_st (σ' := σ3) (lv' := [some (.ref (ad 0)), some (.int a1), some (.int y2_31), some (.int y3_31), some (.int y4_31), some (.int y5_31), some (.int y6_31)]) (st' := []) rfl rfl rfl ?_
    refine tr_iload C (i := 6) dX5_lostFirst_31 rfl ?_
    refine tr_aload_n C (i := 0) dX5_lostFirst_33 rfl rfl ?_
    refine tr_getI C (k := 13) (ci := 5) rfl rfl rfl inT5 rfl (by decide) w961 dX5_lostFirst_34 ?_
    have B75 : ∀ (σ75 : Mem) (y2_75 : Int32) (y3_75 : Int32) (y4_75 : Int32) (y5_75 : Int32), Tr p l e { frames := 79, cells := 0, slots := 0, locals := 2920 } s m args below meth c g ad (shM g) A 7 (QI g ad (shM g) A below args s) (fX5_lostFirst_b75 a1 ih11 σ75 y2_75 y3_75 y4_75 y5_75) σ75 75 [some (.ref (ad 0)), some (.int a1), some (.int y2_75), some (.int y3_75), some (.int y4_75), some (.int y5_75), none] [] := by
      intro σ75 y2_75 y3_75 y4_75 y5_75
      refine tr_aload_n C (i := 0) dX5_lostFirst_75 rfl rfl ?_
      refine tr_cVIP C (av := []) (st := []) (kX5_outMany l g cs ad σ75) mwX5_outMany w1352 rfl rfl ⟨rfl, rfl⟩ ⟨(Nat.le_of_ble_eq_true rfl), (Nat.le_of_ble_eq_true rfl)⟩ rfl rfl (Nat.le_of_ble_eq_true rfl) dX5_lostFirst_76 (fun r4 hr4 => ?_)
      refine tr_istore C (i := 6) (lv' := [some (.ref (ad 0)), some (.int a1), some (.int y2_75), some (.int y3_75), some (.int y4_75), some (.int y5_75), some (.int r4)]) dX5_lostFirst_79 (by decide) rfl ?_
      refine tr_aload_n C (i := 0) dX5_lostFirst_81 rfl rfl ?_
      refine tr_cVV C (av := []) (st := []) (kX5_laysBack l g cs ad σ75) mwX5_laysBack w1303 rfl rfl ⟨rfl, rfl⟩ ⟨(Nat.le_of_ble_eq_true rfl), (Nat.le_of_ble_eq_true rfl)⟩ rfl rfl (Nat.le_of_ble_eq_true rfl) dX5_lostFirst_82 (fun σ5 hr5 => ?_)
      refine tr_iload C (i := 5) dX5_lostFirst_85 rfl ?_
      refine tr_if_eq C (tgt := 107) dX5_lostFirst_87 (by decide) (fun q8 => ?_) (fun q8 => ?_)
      · refine tr_iinc C (i := 4) (d := 1) (lv' := [some (.ref (ad 0)), some (.int a1), some (.int y2_75), some (.int y3_75), some (.int (y4_75 + 1)), some (.int y5_75), some (.int r4)]) dX5_lostFirst_107 rfl (by decide) (by decide) rfl ?_
        refine tr_goto C (tgt := 11) dX5_lostFirst_110 (by decide) ?_
        refine tr_mask [true, true, true, true, true, false, false] rfl ?_
        exact IH11 (σ5, y2_75, y3_75, y4_75 + 1)
      · refine tr_iload_n C (i := 2) dX5_lostFirst_90 rfl rfl ?_
        refine tr_iconst C (v := -1) dX5_lostFirst_91 (by decide) ?_
        refine tr_icmp_eq C (tgt := 101) dX5_lostFirst_92 (by decide) (fun q7 => ?_) (fun q7 => ?_)
        · refine tr_iload C (i := 4) dX5_lostFirst_101 rfl ?_
          refine tr_istore_n C (i := 2) (lv' := [some (.ref (ad 0)), some (.int a1), some (.int y4_75), some (.int y3_75), some (.int y4_75), some (.int y5_75), some (.int r4)]) dX5_lostFirst_103 rfl (by decide) rfl ?_
          refine tr_iload C (i := 6) dX5_lostFirst_104 rfl ?_
          refine tr_istore_n C (i := 3) (lv' := [some (.ref (ad 0)), some (.int a1), some (.int y4_75), some (.int r4), some (.int y4_75), some (.int y5_75), some (.int r4)]) dX5_lostFirst_106 rfl (by decide) rfl ?_
          refine tr_iinc C (i := 4) (d := 1) (lv' := [some (.ref (ad 0)), some (.int a1), some (.int y4_75), some (.int r4), some (.int (y4_75 + 1)), some (.int y5_75), some (.int r4)]) dX5_lostFirst_107 rfl (by decide) (by decide) rfl ?_
          refine tr_goto C (tgt := 11) dX5_lostFirst_110 (by decide) ?_
          refine tr_mask [true, true, true, true, true, false, false] rfl ?_
          exact IH11 (σ5, y4_75, r4, y4_75 + 1)
        · refine tr_iload C (i := 6) dX5_lostFirst_95 rfl ?_
          refine tr_iload_n C (i := 3) dX5_lostFirst_97 rfl rfl ?_
          refine tr_icmp_ge C (tgt := 107) dX5_lostFirst_98 (by decide) (fun q6 => ?_) (fun q6 => ?_)
          · refine tr_iinc C (i := 4) (d := 1) (lv' := [some (.ref (ad 0)), some (.int a1), some (.int y2_75), some (.int y3_75), some (.int (y4_75 + 1)), some (.int y5_75), some (.int r4)]) dX5_lostFirst_107 rfl (by decide) (by decide) rfl ?_
            refine tr_goto C (tgt := 11) dX5_lostFirst_110 (by decide) ?_
            refine tr_mask [true, true, true, true, true, false, false] rfl ?_
            exact IH11 (σ5, y2_75, y3_75, y4_75 + 1)
          · refine tr_iload C (i := 4) dX5_lostFirst_101 rfl ?_
            refine tr_istore_n C (i := 2) (lv' := [some (.ref (ad 0)), some (.int a1), some (.int y4_75), some (.int y3_75), some (.int y4_75), some (.int y5_75), some (.int r4)]) dX5_lostFirst_103 rfl (by decide) rfl ?_
            refine tr_iload C (i := 6) dX5_lostFirst_104 rfl ?_
            refine tr_istore_n C (i := 3) (lv' := [some (.ref (ad 0)), some (.int a1), some (.int y4_75), some (.int r4), some (.int y4_75), some (.int y5_75), some (.int r4)]) dX5_lostFirst_106 rfl (by decide) rfl ?_
            refine tr_iinc C (i := 4) (d := 1) (lv' := [some (.ref (ad 0)), some (.int a1), some (.int y4_75), some (.int r4), some (.int (y4_75 + 1)), some (.int y5_75), some (.int r4)]) dX5_lostFirst_107 rfl (by decide) (by decide) rfl ?_
            refine tr_goto C (tgt := 11) dX5_lostFirst_110 (by decide) ?_
            refine tr_mask [true, true, true, true, true, false, false] rfl ?_
            exact IH11 (σ5, y4_75, r4, y4_75 + 1)
    refine tr_icmp_ge C (tgt := 75) dX5_lostFirst_37 (by decide) (fun q13 => ?_) (fun q13 => ?_)
    · refine tr_mask [true, true, true, true, true, true, false] rfl ?_
      exact B75 σ3 y2_31 y3_31 y4_31 y5_31
    · refine tr_iload C (i := 5) dX5_lostFirst_40 rfl ?_
      refine tr_if_ne C (tgt := 62) dX5_lostFirst_42 (by decide) (fun q12 => ?_) (fun q12 => ?_)
      · refine tr_aload_n C (i := 0) dX5_lostFirst_45 rfl rfl ?_
        refine tr_getR C (k := 12) (ci := 5) rfl rfl rfl inT5 rfl (by decide) w960 dX5_lostFirst_46 ?_
        refine tr_iload C (i := 6) dX5_lostFirst_49 rfl ?_
        refine tr_iald C (n := 8) rfl dX5_lostFirst_51 (fun h11 => ?_)
        refine tr_aload_n C (i := 0) dX5_lostFirst_52 rfl rfl ?_
        refine tr_getR C (k := 30) (ci := 5) rfl rfl rfl inT5 rfl (by decide) w978 dX5_lostFirst_53 ?_
        refine tr_iload C (i := 6) dX5_lostFirst_56 rfl ?_
        refine tr_iald C (n := 8) rfl dX5_lostFirst_58 (fun h10 => ?_)
        refine tr_icmp_eq C (tgt := 66) dX5_lostFirst_59 (by decide) (fun q9 => ?_) (fun q9 => ?_)
        · refine tr_iconst C (v := 0) dX5_lostFirst_66 (by decide) ?_
          refine tr_istore C (i := 5) (lv' := [some (.ref (ad 0)), some (.int a1), some (.int y2_31), some (.int y3_31), some (.int y4_31), some (.int 0), some (.int y6_31)]) dX5_lostFirst_67 (by decide) rfl ?_
          refine tr_iinc C (i := 6) (d := 1) (lv' := [some (.ref (ad 0)), some (.int a1), some (.int y2_31), some (.int y3_31), some (.int y4_31), some (.int 0), some (.int (y6_31 + 1))]) dX5_lostFirst_69 rfl (by decide) (by decide) rfl ?_
          refine tr_goto C (tgt := 31) dX5_lostFirst_72 (by decide) ?_
          exact IH31 (y2_31, y3_31, y4_31, 0, y6_31 + 1)
        · refine tr_iconst C (v := 1) dX5_lostFirst_62 (by decide) ?_
          refine tr_goto C (tgt := 67) dX5_lostFirst_63 (by decide) ?_
          refine tr_istore C (i := 5) (lv' := [some (.ref (ad 0)), some (.int a1), some (.int y2_31), some (.int y3_31), some (.int y4_31), some (.int 1), some (.int y6_31)]) dX5_lostFirst_67 (by decide) rfl ?_
          refine tr_iinc C (i := 6) (d := 1) (lv' := [some (.ref (ad 0)), some (.int a1), some (.int y2_31), some (.int y3_31), some (.int y4_31), some (.int 1), some (.int (y6_31 + 1))]) dX5_lostFirst_69 rfl (by decide) (by decide) rfl ?_
          refine tr_goto C (tgt := 31) dX5_lostFirst_72 (by decide) ?_
          exact IH31 (y2_31, y3_31, y4_31, 1, y6_31 + 1)
      · refine tr_iconst C (v := 1) dX5_lostFirst_62 (by decide) ?_
        refine tr_goto C (tgt := 67) dX5_lostFirst_63 (by decide) ?_
        refine tr_istore C (i := 5) (lv' := [some (.ref (ad 0)), some (.int a1), some (.int y2_31), some (.int y3_31), some (.int y4_31), some (.int 1), some (.int y6_31)]) dX5_lostFirst_67 (by decide) rfl ?_
        refine tr_iinc C (i := 6) (d := 1) (lv' := [some (.ref (ad 0)), some (.int a1), some (.int y2_31), some (.int y3_31), some (.int y4_31), some (.int 1), some (.int (y6_31 + 1))]) dX5_lostFirst_69 rfl (by decide) (by decide) rfl ?_
        refine tr_goto C (tgt := 31) dX5_lostFirst_72 (by decide) ?_
        exact IH31 (y2_31, y3_31, y4_31, 1, y6_31 + 1)
def fX5_bestBy_b71 (a1 : Int32) (σ71 : Mem) (y2_71 : Int32) (y3_71 : Int32) : Option (Int32 × Mem) :=
  if (a1 - a1 / 2 * 2) = 0 then (
    some (y2_71, σ71)
  ) else (
    if 0 ≤ y3_71 then (
      some (y3_71, σ71)
    ) else (
      some (-y3_71, σ71)
    )
  )
def fX5_bestBy_b42 (a1 : Int32) (ih11 : Mem × Int32 × Int32 × Int32 → Option (Int32 × Mem)) (σ42 : Mem) (y2_42 : Int32) (y3_42 : Int32) (y4_42 : Int32) (z0_42 : Int32) : Option (Int32 × Mem) :=
  bn1 (fX5_laysBack σ42) fun σ6 => (
    if y2_42 = (-1) then (
      ih11 (σ6, y4_42, z0_42, y4_42 + 1)
    ) else (
      if z0_42 ≤ y3_42 then (
        ih11 (σ6, y2_42, y3_42, y4_42 + 1)
      ) else (
        ih11 (σ6, y4_42, z0_42, y4_42 + 1)
      )
    )
  )
def fX5_bestBy_L11 (a1 : Int32) (ih11 : Mem × Int32 × Int32 × Int32 → Option (Int32 × Mem)) : Mem × Int32 × Int32 × Int32 → Option (Int32 × Mem) := fun v => match v with
  | (σ11, y2_11, y3_11, y4_11) =>
    if 24 ≤ y4_11 then (
      fX5_bestBy_b71 a1 σ11 y2_11 y3_11
    ) else (
      bnd (fX5_strokes y4_11 σ11) fun r4 σ4 => (
        if 2 ≤ a1 then (
          bn1 (fX5_spread σ4) fun r5 => (
            fX5_bestBy_b42 a1 ih11 σ4 y2_11 y3_11 y4_11 (-r5)
          )
        ) else (
          bn1 (fX5_togethers σ4) fun r9 => (
            fX5_bestBy_b42 a1 ih11 σ4 y2_11 y3_11 y4_11 r9
          )
        )
      )
    )
def fX5_bestBy (a1 : Int32) (σ : Mem) : Option (Int32 × Mem) :=
  bn1 (fX5_laysAside σ) fun σ1 => (
    loopN (fX5_bestBy_L11 a1) 1000 (σ1, -1, 0, 0)
  )
set_option maxHeartbeats 4000000 in
set_option maxRecDepth 100000 in
theorem kX5_bestBy (l : Launch) (g : GG) (cs : CS) (ad : Nat → Nat) (a1 : Int32) (σ : Mem) : CtI l g cs ad (shM g) mX5_bestBy (.code mX5_bestBy cX5_bestBy 6 (some .int)) { frames := 79, cells := 0, slots := 0, locals := 2920 } [.ref (ad 0), .int a1] σ (fX5_bestBy a1 σ) := by
  refine ctI_intro (own := "KinInTheHeapModel") (by decide +kernel) rfl [some (.ref (ad 0)), some (.int a1), none, none, none, none] (Nat.le_of_ble_eq_true rfl) rfl ?_
  intro p e s m args below meth c A C hr hlk
  refine tr_aload_n C (i := 0) dX5_bestBy_0 rfl rfl ?_
  refine tr_cVV C (av := []) (st := []) (kX5_laysAside l g cs ad σ) mwX5_laysAside w1280 rfl rfl ⟨rfl, rfl⟩ ⟨(Nat.le_of_ble_eq_true rfl), (Nat.le_of_ble_eq_true rfl)⟩ rfl rfl (Nat.le_of_ble_eq_true rfl) dX5_bestBy_1 (fun σ1 hr1 => ?_)
  refine tr_iconst C (v := -1) dX5_bestBy_4 (by decide) ?_
  refine tr_istore_n C (i := 2) (lv' := [some (.ref (ad 0)), some (.int a1), some (.int (-1)), none, none, none]) dX5_bestBy_5 rfl (by decide) rfl ?_
  refine tr_iconst C (v := 0) dX5_bestBy_6 (by decide) ?_
  refine tr_istore_n C (i := 3) (lv' := [some (.ref (ad 0)), some (.int a1), some (.int (-1)), some (.int 0), none, none]) dX5_bestBy_7 rfl (by decide) rfl ?_
  refine tr_iconst C (v := 0) dX5_bestBy_8 (by decide) ?_
  refine tr_istore C (i := 4) (lv' := [some (.ref (ad 0)), some (.int a1), some (.int (-1)), some (.int 0), some (.int 0), none]) dX5_bestBy_9 (by decide) rfl ?_
  refine tr_loop (b := fX5_bestBy_L11 a1) (sg := fun v => v.1) (lw := fun v => [some (.ref (ad 0)), some (.int a1), some (.int v.2.1), some (.int v.2.2.1), some (.int v.2.2.2), none]) (sw := fun v => []) (fun ih11 IH11 v => ?_) 1000 (σ1, -1, 0, 0)
  obtain ⟨σ11, y2_11, y3_11, y4_11⟩ := v
  refine tr_st (σ' := σ11) (lv' := [some (.ref (ad 0)), some (.int a1), some (.int y2_11), some (.int y3_11), some (.int y4_11), none]) (st' := []) rfl rfl rfl ?_
  refine tr_iload C (i := 4) dX5_bestBy_11 rfl ?_
  refine tr_bipush C (v := 24) dX5_bestBy_13 (by decide) ?_
  have B71 : ∀ (σ71 : Mem) (y2_71 : Int32) (y3_71 : Int32), Tr p l e { frames := 79, cells := 0, slots := 0, locals := 2920 } s m args below meth c g ad (shM g) A 6 (QI g ad (shM g) A below args s) (fX5_bestBy_b71 a1 σ71 y2_71 y3_71) σ71 71 [none, some (.int a1), some (.int y2_71), some (.int y3_71), none, none] [] := by
    intro σ71 y2_71 y3_71
    refine tr_iload_n C (i := 1) dX5_bestBy_71 rfl rfl ?_
    refine tr_iconst C (v := 2) dX5_bestBy_72 (by decide) ?_
    refine tr_iremK C dX5_bestBy_73 (by decide) ?_
    refine tr_if_ne C (tgt := 81) dX5_bestBy_74 (by decide) (fun q3 => ?_) (fun q3 => ?_)
    · refine tr_iload_n C (i := 2) dX5_bestBy_77 rfl rfl ?_
      refine tr_goto C (tgt := 91) dX5_bestBy_78 (by decide) ?_
      exact tr_iret C hr hlk dX5_bestBy_91
    · refine tr_iload_n C (i := 3) dX5_bestBy_81 rfl rfl ?_
      refine tr_if_ge C (tgt := 90) dX5_bestBy_82 (by decide) (fun q2 => ?_) (fun q2 => ?_)
      · refine tr_iload_n C (i := 3) dX5_bestBy_90 rfl rfl ?_
        exact tr_iret C hr hlk dX5_bestBy_91
      · refine tr_iload_n C (i := 3) dX5_bestBy_85 rfl rfl ?_
        refine tr_ineg C dX5_bestBy_86 ?_
        refine tr_goto C (tgt := 91) dX5_bestBy_87 (by decide) ?_
        exact tr_iret C hr hlk dX5_bestBy_91
  refine tr_icmp_ge C (tgt := 71) dX5_bestBy_15 (by decide) (fun q11 => ?_) (fun q11 => ?_)
  · refine tr_mask [false, true, true, true, false, false] rfl ?_
    exact B71 σ11 y2_11 y3_11
  · refine tr_aload_n C (i := 0) dX5_bestBy_18 rfl rfl ?_
    refine tr_iload C (i := 4) dX5_bestBy_19 rfl ?_
    refine tr_cVI C (av := [.int y4_11]) (st := []) (kX5_strokes l g cs ad y4_11 σ11) mwX5_strokes w1240 rfl rfl ⟨rfl, rfl⟩ ⟨(Nat.le_of_ble_eq_true rfl), (Nat.le_of_ble_eq_true rfl)⟩ rfl rfl (Nat.le_of_ble_eq_true rfl) dX5_bestBy_21 (fun r4 σ4 hr4 => ?_)
    refine tr_pop C dX5_bestBy_24 rfl ?_
    refine tr_iload_n C (i := 1) dX5_bestBy_25 rfl rfl ?_
    refine tr_iconst C (v := 2) dX5_bestBy_26 (by decide) ?_
    have B42 : ∀ (σ42 : Mem) (y2_42 : Int32) (y3_42 : Int32) (y4_42 : Int32) (z0_42 : Int32), Tr p l e { frames := 79, cells := 0, slots := 0, locals := 2920 } s m args below meth c g ad (shM g) A 6 (QI g ad (shM g) A below args s) (fX5_bestBy_b42 a1 ih11 σ42 y2_42 y3_42 y4_42 z0_42) σ42 42 [some (.ref (ad 0)), some (.int a1), some (.int y2_42), some (.int y3_42), some (.int y4_42), none] [.int z0_42] := by
      intro σ42 y2_42 y3_42 y4_42 z0_42
      refine tr_istore C (i := 5) (lv' := [some (.ref (ad 0)), some (.int a1), some (.int y2_42), some (.int y3_42), some (.int y4_42), some (.int z0_42)]) dX5_bestBy_42 (by decide) rfl ?_
      refine tr_aload_n C (i := 0) dX5_bestBy_44 rfl rfl ?_
      refine tr_cVV C (av := []) (st := []) (kX5_laysBack l g cs ad σ42) mwX5_laysBack w1303 rfl rfl ⟨rfl, rfl⟩ ⟨(Nat.le_of_ble_eq_true rfl), (Nat.le_of_ble_eq_true rfl)⟩ rfl rfl (Nat.le_of_ble_eq_true rfl) dX5_bestBy_45 (fun σ6 hr6 => ?_)
      refine tr_iload_n C (i := 2) dX5_bestBy_48 rfl rfl ?_
      refine tr_iconst C (v := -1) dX5_bestBy_49 (by decide) ?_
      refine tr_icmp_eq C (tgt := 59) dX5_bestBy_50 (by decide) (fun q8 => ?_) (fun q8 => ?_)
      · refine tr_iload C (i := 4) dX5_bestBy_59 rfl ?_
        refine tr_istore_n C (i := 2) (lv' := [some (.ref (ad 0)), some (.int a1), some (.int y4_42), some (.int y3_42), some (.int y4_42), some (.int z0_42)]) dX5_bestBy_61 rfl (by decide) rfl ?_
        refine tr_iload C (i := 5) dX5_bestBy_62 rfl ?_
        refine tr_istore_n C (i := 3) (lv' := [some (.ref (ad 0)), some (.int a1), some (.int y4_42), some (.int z0_42), some (.int y4_42), some (.int z0_42)]) dX5_bestBy_64 rfl (by decide) rfl ?_
        refine tr_iinc C (i := 4) (d := 1) (lv' := [some (.ref (ad 0)), some (.int a1), some (.int y4_42), some (.int z0_42), some (.int (y4_42 + 1)), some (.int z0_42)]) dX5_bestBy_65 rfl (by decide) (by decide) rfl ?_
        refine tr_goto C (tgt := 11) dX5_bestBy_68 (by decide) ?_
        refine tr_mask [true, true, true, true, true, false] rfl ?_
        exact IH11 (σ6, y4_42, z0_42, y4_42 + 1)
      · refine tr_iload C (i := 5) dX5_bestBy_53 rfl ?_
        refine tr_iload_n C (i := 3) dX5_bestBy_55 rfl rfl ?_
        refine tr_icmp_le C (tgt := 65) dX5_bestBy_56 (by decide) (fun q7 => ?_) (fun q7 => ?_)
        · refine tr_iinc C (i := 4) (d := 1) (lv' := [some (.ref (ad 0)), some (.int a1), some (.int y2_42), some (.int y3_42), some (.int (y4_42 + 1)), some (.int z0_42)]) dX5_bestBy_65 rfl (by decide) (by decide) rfl ?_
          refine tr_goto C (tgt := 11) dX5_bestBy_68 (by decide) ?_
          refine tr_mask [true, true, true, true, true, false] rfl ?_
          exact IH11 (σ6, y2_42, y3_42, y4_42 + 1)
        · refine tr_iload C (i := 4) dX5_bestBy_59 rfl ?_
          refine tr_istore_n C (i := 2) (lv' := [some (.ref (ad 0)), some (.int a1), some (.int y4_42), some (.int y3_42), some (.int y4_42), some (.int z0_42)]) dX5_bestBy_61 rfl (by decide) rfl ?_
          refine tr_iload C (i := 5) dX5_bestBy_62 rfl ?_
          refine tr_istore_n C (i := 3) (lv' := [some (.ref (ad 0)), some (.int a1), some (.int y4_42), some (.int z0_42), some (.int y4_42), some (.int z0_42)]) dX5_bestBy_64 rfl (by decide) rfl ?_
          refine tr_iinc C (i := 4) (d := 1) (lv' := [some (.ref (ad 0)), some (.int a1), some (.int y4_42), some (.int z0_42), some (.int (y4_42 + 1)), some (.int z0_42)]) dX5_bestBy_65 rfl (by decide) (by decide) rfl ?_
          refine tr_goto C (tgt := 11) dX5_bestBy_68 (by decide) ?_
          refine tr_mask [true, true, true, true, true, false] rfl ?_
          exact IH11 (σ6, y4_42, z0_42, y4_42 + 1)
    refine tr_icmp_ge C (tgt := 37) dX5_bestBy_27 (by decide) (fun q10 => ?_) (fun q10 => ?_)
    · refine tr_aload_n C (i := 0) dX5_bestBy_37 rfl rfl ?_
      refine tr_cVIP C (av := []) (st := []) (kX5_spread l g cs ad σ4) mwX5_spread w1296 rfl rfl ⟨rfl, rfl⟩ ⟨(Nat.le_of_ble_eq_true rfl), (Nat.le_of_ble_eq_true rfl)⟩ rfl rfl (Nat.le_of_ble_eq_true rfl) dX5_bestBy_38 (fun r5 hr5 => ?_)
      refine tr_ineg C dX5_bestBy_41 ?_
      exact B42 σ4 y2_11 y3_11 y4_11 (-r5)
    · refine tr_aload_n C (i := 0) dX5_bestBy_30 rfl rfl ?_
      refine tr_cVIP C (av := []) (st := []) (kX5_togethers l g cs ad σ4) mwX5_togethers w1288 rfl rfl ⟨rfl, rfl⟩ ⟨(Nat.le_of_ble_eq_true rfl), (Nat.le_of_ble_eq_true rfl)⟩ rfl rfl (Nat.le_of_ble_eq_true rfl) dX5_bestBy_31 (fun r9 hr9 => ?_)
      refine tr_goto C (tgt := 42) dX5_bestBy_34 (by decide) ?_
      exact B42 σ4 y2_11 y3_11 y4_11 r9
def fX5_best (a1 : Int32) (σ : Mem) : Option (Int32 × Mem) :=
  bn1 (fX5_in a1.toInt64 0 5 σ) fun r1 => (
    if r1 = 0 then (
      some (-2, σ)
    ) else (
      if 4 ≤ a1 then (
        bnd (fX5_lostFirst a1 σ) fun r2 σ2 => (
          some (r2, σ2)
        )
      ) else (
        bnd (fX5_bestBy a1 σ) fun r3 σ3 => (
          some (r3, σ3)
        )
      )
    )
  )
set_option maxHeartbeats 4000000 in
set_option maxRecDepth 100000 in
theorem kX5_best (l : Launch) (g : GG) (cs : CS) (ad : Nat → Nat) (a1 : Int32) (σ : Mem) : CtI l g cs ad (shM g) mX5_best (.code mX5_best cX5_best 2 (some .int)) { frames := 80, cells := 0, slots := 0, locals := 2946 } [.ref (ad 0), .int a1] σ (fX5_best a1 σ) := by
  refine ctI_intro (own := "KinInTheHeapModel") (by decide +kernel) rfl [some (.ref (ad 0)), some (.int a1)] (Nat.le_of_ble_eq_true rfl) rfl ?_
  intro p e s m args below meth c A C hr hlk
  refine tr_iload_n C (i := 1) dX5_best_0 rfl rfl ?_
  refine tr_i2l C dX5_best_1 ?_
  refine tr_lconst C (v := 0) dX5_best_2 (by decide) ?_
  refine tr_ldc2 C (v := 5) w1216 dX5_best_3 ?_
  refine tr_cSIP C (av := [.long a1.toInt64, .long 0, .long 5]) (st := []) (kX5_in l g cs ad a1.toInt64 0 5 σ) mwX5_in w1084 ⟨rfl, rfl⟩ ⟨(Nat.le_of_ble_eq_true rfl), (Nat.le_of_ble_eq_true rfl)⟩ rfl rfl (Nat.le_of_ble_eq_true rfl) dX5_best_6 (fun r1 hr1 => ?_)
  refine tr_if_ne C (tgt := 17) dX5_best_9 (by decide) (fun q5 => ?_) (fun q5 => ?_)
  · refine tr_bipush C (v := -2) dX5_best_12 (by decide) ?_
    refine tr_goto C (tgt := 35) dX5_best_14 (by decide) ?_
    exact tr_iret C hr hlk dX5_best_35
  · refine tr_iload_n C (i := 1) dX5_best_17 rfl rfl ?_
    refine tr_iconst C (v := 4) dX5_best_18 (by decide) ?_
    refine tr_icmp_ge C (tgt := 30) dX5_best_19 (by decide) (fun q4 => ?_) (fun q4 => ?_)
    · refine tr_aload_n C (i := 0) dX5_best_30 rfl rfl ?_
      refine tr_iload_n C (i := 1) dX5_best_31 rfl rfl ?_
      refine tr_cVI C (av := [.int a1]) (st := []) (kX5_lostFirst l g cs ad a1 σ) mwX5_lostFirst w1348 rfl rfl ⟨rfl, rfl⟩ ⟨(Nat.le_of_ble_eq_true rfl), (Nat.le_of_ble_eq_true rfl)⟩ rfl rfl (Nat.le_of_ble_eq_true rfl) dX5_best_32 (fun r2 σ2 hr2 => ?_)
      exact tr_iret C hr hlk dX5_best_35
    · refine tr_aload_n C (i := 0) dX5_best_22 rfl rfl ?_
      refine tr_iload_n C (i := 1) dX5_best_23 rfl rfl ?_
      refine tr_cVI C (av := [.int a1]) (st := []) (kX5_bestBy l g cs ad a1 σ) mwX5_bestBy w1344 rfl rfl ⟨rfl, rfl⟩ ⟨(Nat.le_of_ble_eq_true rfl), (Nat.le_of_ble_eq_true rfl)⟩ rfl rfl (Nat.le_of_ble_eq_true rfl) dX5_best_24 (fun r3 σ3 hr3 => ?_)
      refine tr_goto C (tgt := 35) dX5_best_27 (by decide) ?_
      exact tr_iret C hr hlk dX5_best_35
def fX5_outBy (a1 : Int32) (σ : Mem) : Option (Int32 × Mem) :=
  bn1 (fX5_laysAside σ) fun σ1 => (
    bnd (fX5_strokes a1 σ1) fun r2 σ2 => (
      bn1 (fX5_outMany σ2) fun r3 => (
        bn1 (fX5_laysBack σ2) fun σ4 => (
          some (r3, σ4)
        )
      )
    )
  )
set_option maxHeartbeats 4000000 in
set_option maxRecDepth 100000 in
theorem kX5_outBy (l : Launch) (g : GG) (cs : CS) (ad : Nat → Nat) (a1 : Int32) (σ : Mem) : CtI l g cs ad (shM g) mX5_outBy (.code mX5_outBy cX5_outBy 3 (some .int)) { frames := 79, cells := 0, slots := 0, locals := 2920 } [.ref (ad 0), .int a1] σ (fX5_outBy a1 σ) := by
  refine ctI_intro (own := "KinInTheHeapModel") (by decide +kernel) rfl [some (.ref (ad 0)), some (.int a1), none] (Nat.le_of_ble_eq_true rfl) rfl ?_
  intro p e s m args below meth c A C hr hlk
  refine tr_aload_n C (i := 0) dX5_outBy_0 rfl rfl ?_
  refine tr_cVV C (av := []) (st := []) (kX5_laysAside l g cs ad σ) mwX5_laysAside w1280 rfl rfl ⟨rfl, rfl⟩ ⟨(Nat.le_of_ble_eq_true rfl), (Nat.le_of_ble_eq_true rfl)⟩ rfl rfl (Nat.le_of_ble_eq_true rfl) dX5_outBy_1 (fun σ1 hr1 => ?_)
  refine tr_aload_n C (i := 0) dX5_outBy_4 rfl rfl ?_
  refine tr_iload_n C (i := 1) dX5_outBy_5 rfl rfl ?_
  refine tr_cVI C (av := [.int a1]) (st := []) (kX5_strokes l g cs ad a1 σ1) mwX5_strokes w1240 rfl rfl ⟨rfl, rfl⟩ ⟨(Nat.le_of_ble_eq_true rfl), (Nat.le_of_ble_eq_true rfl)⟩ rfl rfl (Nat.le_of_ble_eq_true rfl) dX5_outBy_6 (fun r2 σ2 hr2 => ?_)
  refine tr_pop C dX5_outBy_9 rfl ?_
  refine tr_aload_n C (i := 0) dX5_outBy_10 rfl rfl ?_
  refine tr_cVIP C (av := []) (st := []) (kX5_outMany l g cs ad σ2) mwX5_outMany w1352 rfl rfl ⟨rfl, rfl⟩ ⟨(Nat.le_of_ble_eq_true rfl), (Nat.le_of_ble_eq_true rfl)⟩ rfl rfl (Nat.le_of_ble_eq_true rfl) dX5_outBy_11 (fun r3 hr3 => ?_)
  refine tr_istore_n C (i := 2) (lv' := [some (.ref (ad 0)), some (.int a1), some (.int r3)]) dX5_outBy_14 rfl (by decide) rfl ?_
  refine tr_aload_n C (i := 0) dX5_outBy_15 rfl rfl ?_
  refine tr_cVV C (av := []) (st := []) (kX5_laysBack l g cs ad σ2) mwX5_laysBack w1303 rfl rfl ⟨rfl, rfl⟩ ⟨(Nat.le_of_ble_eq_true rfl), (Nat.le_of_ble_eq_true rfl)⟩ rfl rfl (Nat.le_of_ble_eq_true rfl) dX5_outBy_16 (fun σ4 hr4 => ?_)
  refine tr_iload_n C (i := 2) dX5_outBy_19 rfl rfl ?_
  exact tr_iret C hr hlk dX5_outBy_20
def fX5_save_b101 (a1 : Int32) (a2 : Int32) (σ101 : Mem) (y3_101 : Int32) (y4_101 : Int32) : Option (Int32 × Mem) :=
  if a2 = 0 then (
    some (y3_101, σ101)
  ) else (
    some (y4_101, σ101)
  )
def fX5_save_L32 (a1 : Int32) (a2 : Int32) (ih32 : Mem × Int32 × Int32 × Int32 → Option (Int32 × Mem)) : Mem × Int32 × Int32 × Int32 → Option (Int32 × Mem) := fun v => match v with
  | (σ32, y3_32, y4_32, y5_32) =>
    if 36 ≤ y5_32 then (
      fX5_save_b101 a1 a2 σ32 y3_32 y4_32
    ) else (
      gd (inB y5_32 36) (
        if (rd σ32 4 y5_32) = 0 then (
          bn1 (fX5_whoIn y5_32 σ32) fun r5 => (
            if r5 = 0 then (
              gd (inB y5_32 36) (stp (wr σ32 4 y5_32 1) fun σw6 => (
                bnd (fX5_outBy a1 σw6) fun r7 σ7 => (
                  gd (inB y5_32 36) (stp (wr σ7 4 y5_32 0) fun σw8 => (
                    if y4_32 ≤ r7 then (
                      ih32 (σw8, y3_32, y4_32, y5_32 + 1)
                    ) else (
                      ih32 (σw8, y5_32, r7, y5_32 + 1)
                    )
                  ))
                )
              ))
            ) else (
              ih32 (σ32, y3_32, y4_32, y5_32 + 1)
            )
          )
        ) else (
          ih32 (σ32, y3_32, y4_32, y5_32 + 1)
        )
      )
    )
def fX5_save (a1 : Int32) (a2 : Int32) (σ : Mem) : Option (Int32 × Mem) :=
  bn1 (fX5_isStroke a1 σ) fun r1 => (
    if r1 = 0 then (
      some (-2, σ)
    ) else (
      bn1 (fX5_in a2.toInt64 0 1 σ) fun r2 => (
        if r2 = 0 then (
          some (-2, σ)
        ) else (
          bnd (fX5_outBy a1 σ) fun r3 σ3 => (
            loopN (fX5_save_L32 a1 a2) 1000 (σ3, -1, r3, 0)
          )
        )
      )
    )
  )
set_option maxHeartbeats 4000000 in
set_option maxRecDepth 100000 in
theorem kX5_save (l : Launch) (g : GG) (cs : CS) (ad : Nat → Nat) (a1 : Int32) (a2 : Int32) (σ : Mem) : CtI l g cs ad (shM g) mX5_save (.code mX5_save cX5_save 7 (some .int)) { frames := 80, cells := 0, slots := 0, locals := 2942 } [.ref (ad 0), .int a1, .int a2] σ (fX5_save a1 a2 σ) := by
  refine ctI_intro (own := "KinInTheHeapModel") (by decide +kernel) rfl [some (.ref (ad 0)), some (.int a1), some (.int a2), none, none, none, none] (Nat.le_of_ble_eq_true rfl) rfl ?_
  intro p e s m args below meth c A C hr hlk
  refine tr_iload_n C (i := 1) dX5_save_0 rfl rfl ?_
  refine tr_cSIP C (av := [.int a1]) (st := []) (kX5_isStroke l g cs ad a1 σ) mwX5_isStroke w1236 ⟨rfl, rfl⟩ ⟨(Nat.le_of_ble_eq_true rfl), (Nat.le_of_ble_eq_true rfl)⟩ rfl rfl (Nat.le_of_ble_eq_true rfl) dX5_save_1 (fun r1 hr1 => ?_)
  refine tr_if_eq C (tgt := 17) dX5_save_4 (by decide) (fun q17 => ?_) (fun q17 => ?_)
  · refine tr_bipush C (v := -2) dX5_save_17 (by decide) ?_
    exact tr_iret C hr hlk dX5_save_19
  · refine tr_iload_n C (i := 2) dX5_save_7 rfl rfl ?_
    refine tr_i2l C dX5_save_8 ?_
    refine tr_lconst C (v := 0) dX5_save_9 (by decide) ?_
    refine tr_lconst C (v := 1) dX5_save_10 (by decide) ?_
    refine tr_cSIP C (av := [.long a2.toInt64, .long 0, .long 1]) (st := []) (kX5_in l g cs ad a2.toInt64 0 1 σ) mwX5_in w1084 ⟨rfl, rfl⟩ ⟨(Nat.le_of_ble_eq_true rfl), (Nat.le_of_ble_eq_true rfl)⟩ rfl rfl (Nat.le_of_ble_eq_true rfl) dX5_save_11 (fun r2 hr2 => ?_)
    refine tr_if_ne C (tgt := 20) dX5_save_14 (by decide) (fun q16 => ?_) (fun q16 => ?_)
    · refine tr_bipush C (v := -2) dX5_save_17 (by decide) ?_
      exact tr_iret C hr hlk dX5_save_19
    · refine tr_iconst C (v := -1) dX5_save_20 (by decide) ?_
      refine tr_istore_n C (i := 3) (lv' := [some (.ref (ad 0)), some (.int a1), some (.int a2), some (.int (-1)), none, none, none]) dX5_save_21 rfl (by decide) rfl ?_
      refine tr_aload_n C (i := 0) dX5_save_22 rfl rfl ?_
      refine tr_iload_n C (i := 1) dX5_save_23 rfl rfl ?_
      refine tr_cVI C (av := [.int a1]) (st := []) (kX5_outBy l g cs ad a1 σ) mwX5_outBy w1360 rfl rfl ⟨rfl, rfl⟩ ⟨(Nat.le_of_ble_eq_true rfl), (Nat.le_of_ble_eq_true rfl)⟩ rfl rfl (Nat.le_of_ble_eq_true rfl) dX5_save_24 (fun r3 σ3 hr3 => ?_)
      refine tr_istore C (i := 4) (lv' := [some (.ref (ad 0)), some (.int a1), some (.int a2), some (.int (-1)), some (.int r3), none, none]) dX5_save_27 (by decide) rfl ?_
      refine tr_iconst C (v := 0) dX5_save_29 (by decide) ?_
      refine tr_istore C (i := 5) (lv' := [some (.ref (ad 0)), some (.int a1), some (.int a2), some (.int (-1)), some (.int r3), some (.int 0), none]) dX5_save_30 (by decide) rfl ?_
      refine tr_loop (b := fX5_save_L32 a1 a2) (sg := fun v => v.1) (lw := fun v => [some (.ref (ad 0)), some (.int a1), some (.int a2), some (.int v.2.1), some (.int v.2.2.1), some (.int v.2.2.2), none]) (sw := fun v => []) (fun ih32 IH32 v => ?_) 1000 (σ3, -1, r3, 0)
      obtain ⟨σ32, y3_32, y4_32, y5_32⟩ := v
      refine tr_st (σ' := σ32) (lv' := [some (.ref (ad 0)), some (.int a1), some (.int a2), some (.int y3_32), some (.int y4_32), some (.int y5_32), none]) (st' := []) rfl rfl rfl ?_
      refine tr_iload C (i := 5) dX5_save_32 rfl ?_
      refine tr_bipush C (v := 36) dX5_save_34 (by decide) ?_
      have B101 : ∀ (σ101 : Mem) (y3_101 : Int32) (y4_101 : Int32), Tr p l e { frames := 80, cells := 0, slots := 0, locals := 2942 } s m args below meth c g ad (shM g) A 7 (QI g ad (shM g) A below args s) (fX5_save_b101 a1 a2 σ101 y3_101 y4_101) σ101 101 [none, none, some (.int a2), some (.int y3_101), some (.int y4_101), none, none] [] := by
        intro σ101 y3_101 y4_101
        refine tr_iload_n C (i := 2) dX5_save_101 rfl rfl ?_
        refine tr_if_ne C (tgt := 109) dX5_save_102 (by decide) (fun q4 => ?_) (fun q4 => ?_)
        · refine tr_iload_n C (i := 3) dX5_save_105 rfl rfl ?_
          refine tr_goto C (tgt := 111) dX5_save_106 (by decide) ?_
          exact tr_iret C hr hlk dX5_save_111
        · refine tr_iload C (i := 4) dX5_save_109 rfl ?_
          exact tr_iret C hr hlk dX5_save_111
      refine tr_icmp_ge C (tgt := 101) dX5_save_36 (by decide) (fun q15 => ?_) (fun q15 => ?_)
      · refine tr_mask [false, false, true, true, true, false, false] rfl ?_
        exact B101 σ32 y3_32 y4_32
      · refine tr_aload_n C (i := 0) dX5_save_39 rfl rfl ?_
        refine tr_getR C (k := 9) (ci := 5) rfl rfl rfl inT5 rfl (by decide) w957 dX5_save_40 ?_
        refine tr_iload C (i := 5) dX5_save_43 rfl ?_
        refine tr_iald C (n := 36) rfl dX5_save_45 (fun h14 => ?_)
        refine tr_if_ne C (tgt := 95) dX5_save_46 (by decide) (fun q13 => ?_) (fun q13 => ?_)
        · refine tr_aload_n C (i := 0) dX5_save_49 rfl rfl ?_
          refine tr_iload C (i := 5) dX5_save_50 rfl ?_
          refine tr_cVIP C (av := [.int y5_32]) (st := []) (kX5_whoIn l g cs ad y5_32 σ32) mwX5_whoIn w1108 rfl rfl ⟨rfl, rfl⟩ ⟨(Nat.le_of_ble_eq_true rfl), (Nat.le_of_ble_eq_true rfl)⟩ rfl rfl (Nat.le_of_ble_eq_true rfl) dX5_save_52 (fun r5 hr5 => ?_)
          refine tr_if_ne C (tgt := 95) dX5_save_55 (by decide) (fun q12 => ?_) (fun q12 => ?_)
          · refine tr_aload_n C (i := 0) dX5_save_58 rfl rfl ?_
            refine tr_getR C (k := 9) (ci := 5) rfl rfl rfl inT5 rfl (by decide) w957 dX5_save_59 ?_
            refine tr_iload C (i := 5) dX5_save_62 rfl ?_
            refine tr_iconst C (v := 1) dX5_save_64 (by decide) ?_
            refine tr_iast C (n := 36) (σ' := wr σ32 4 y5_32 1) rfl dX5_save_65 rfl (fun h11 => ?_)
            refine tr_stp (fun σw6 eσw6 => ?_)
            refine tr_aload_n C (i := 0) dX5_save_66 rfl rfl ?_
            refine tr_iload_n C (i := 1) dX5_save_67 rfl rfl ?_
            refine tr_cVI C (av := [.int a1]) (st := []) (kX5_outBy l g cs ad a1 σw6) mwX5_outBy w1360 rfl rfl ⟨rfl, rfl⟩ ⟨(Nat.le_of_ble_eq_true rfl), (Nat.le_of_ble_eq_true rfl)⟩ rfl rfl (Nat.le_of_ble_eq_true rfl) dX5_save_68 (fun r7 σ7 hr7 => ?_)
            refine tr_istore C (i := 6) (lv' := [some (.ref (ad 0)), some (.int a1), some (.int a2), some (.int y3_32), some (.int y4_32), some (.int y5_32), some (.int r7)]) dX5_save_71 (by decide) rfl ?_
            refine tr_aload_n C (i := 0) dX5_save_73 rfl rfl ?_
            refine tr_getR C (k := 9) (ci := 5) rfl rfl rfl inT5 rfl (by decide) w957 dX5_save_74 ?_
            refine tr_iload C (i := 5) dX5_save_77 rfl ?_
            refine tr_iconst C (v := 0) dX5_save_79 (by decide) ?_
            refine tr_iast C (n := 36) (σ' := wr σ7 4 y5_32 0) rfl dX5_save_80 rfl (fun h10 => ?_)
            refine tr_stp (fun σw8 eσw8 => ?_)
            refine tr_iload C (i := 6) dX5_save_81 rfl ?_
            refine tr_iload C (i := 4) dX5_save_83 rfl ?_
            refine tr_icmp_ge C (tgt := 95) dX5_save_85 (by decide) (fun q9 => ?_) (fun q9 => ?_)
            · refine tr_iinc C (i := 5) (d := 1) (lv' := [some (.ref (ad 0)), some (.int a1), some (.int a2), some (.int y3_32), some (.int y4_32), some (.int (y5_32 + 1)), some (.int r7)]) dX5_save_95 rfl (by decide) (by decide) rfl ?_
              refine tr_goto C (tgt := 32) dX5_save_98 (by decide) ?_
              refine tr_mask [true, true, true, true, true, true, false] rfl ?_
              exact IH32 (σw8, y3_32, y4_32, y5_32 + 1)
            · refine tr_iload C (i := 5) dX5_save_88 rfl ?_
              refine tr_istore_n C (i := 3) (lv' := [some (.ref (ad 0)), some (.int a1), some (.int a2), some (.int y5_32), some (.int y4_32), some (.int y5_32), some (.int r7)]) dX5_save_90 rfl (by decide) rfl ?_
              refine tr_iload C (i := 6) dX5_save_91 rfl ?_
              refine tr_istore C (i := 4) (lv' := [some (.ref (ad 0)), some (.int a1), some (.int a2), some (.int y5_32), some (.int r7), some (.int y5_32), some (.int r7)]) dX5_save_93 (by decide) rfl ?_
              refine tr_iinc C (i := 5) (d := 1) (lv' := [some (.ref (ad 0)), some (.int a1), some (.int a2), some (.int y5_32), some (.int r7), some (.int (y5_32 + 1)), some (.int r7)]) dX5_save_95 rfl (by decide) (by decide) rfl ?_
              refine tr_goto C (tgt := 32) dX5_save_98 (by decide) ?_
              refine tr_mask [true, true, true, true, true, true, false] rfl ?_
              exact IH32 (σw8, y5_32, r7, y5_32 + 1)
          · refine tr_iinc C (i := 5) (d := 1) (lv' := [some (.ref (ad 0)), some (.int a1), some (.int a2), some (.int y3_32), some (.int y4_32), some (.int (y5_32 + 1)), none]) dX5_save_95 rfl (by decide) (by decide) rfl ?_
            refine tr_goto C (tgt := 32) dX5_save_98 (by decide) ?_
            exact IH32 (σ32, y3_32, y4_32, y5_32 + 1)
        · refine tr_iinc C (i := 5) (d := 1) (lv' := [some (.ref (ad 0)), some (.int a1), some (.int a2), some (.int y3_32), some (.int y4_32), some (.int (y5_32 + 1)), none]) dX5_save_95 rfl (by decide) (by decide) rfl ?_
          refine tr_goto C (tgt := 32) dX5_save_98 (by decide) ?_
          exact IH32 (σ32, y3_32, y4_32, y5_32 + 1)
def fX5_lasts_b55 (a1 : Int32) (a2 : Int32) (σ55 : Mem) (y3_55 : Int32) : Option (Int32 × Mem) :=
  bn1 (fX5_laysBack σ55) fun σ4 => (
    if y3_55 ≤ a2 then (
      some (y3_55, σ4)
    ) else (
      some (-1, σ4)
    )
  )
def fX5_lasts_L29 (a1 : Int32) (a2 : Int32) (ih29 : Mem × Int32 → Option (Int32 × Mem)) : Mem × Int32 → Option (Int32 × Mem) := fun v => match v with
  | (σ29, y3_29) =>
    if a2 < y3_29 then (
      fX5_lasts_b55 a1 a2 σ29 y3_29
    ) else (
      gd (inB a1 8) (
        if (rd σ29 7 a1) = (-1) then (
          fX5_lasts_b55 a1 a2 σ29 y3_29
        ) else (
          bnd (fX5_passes σ29) fun r6 σ6 => (
            ih29 (σ6, y3_29 + 1)
          )
        )
      )
    )
def fX5_lasts (a1 : Int32) (a2 : Int32) (σ : Mem) : Option (Int32 × Mem) :=
  bn1 (fX5_isOne a1 σ) fun r1 => (
    if r1 = 0 then (
      some (-2, σ)
    ) else (
      bn1 (fX5_in a2.toInt64 0 40 σ) fun r2 => (
        if r2 = 0 then (
          some (-2, σ)
        ) else (
          bn1 (fX5_laysAside σ) fun σ3 => (
            loopN (fX5_lasts_L29 a1 a2) 1000 (σ3, 0)
          )
        )
      )
    )
  )
set_option maxHeartbeats 4000000 in
set_option maxRecDepth 100000 in
theorem kX5_lasts (l : Launch) (g : GG) (cs : CS) (ad : Nat → Nat) (a1 : Int32) (a2 : Int32) (σ : Mem) : CtI l g cs ad (shM g) mX5_lasts (.code mX5_lasts cX5_lasts 4 (some .int)) { frames := 79, cells := 0, slots := 0, locals := 2917 } [.ref (ad 0), .int a1, .int a2] σ (fX5_lasts a1 a2 σ) := by
  refine ctI_intro (own := "KinInTheHeapModel") (by decide +kernel) rfl [some (.ref (ad 0)), some (.int a1), some (.int a2), none] (Nat.le_of_ble_eq_true rfl) rfl ?_
  intro p e s m args below meth c A C hr hlk
  refine tr_aload_n C (i := 0) dX5_lasts_0 rfl rfl ?_
  refine tr_iload_n C (i := 1) dX5_lasts_1 rfl rfl ?_
  refine tr_cVIP C (av := [.int a1]) (st := []) (kX5_isOne l g cs ad a1 σ) mwX5_isOne w1095 rfl rfl ⟨rfl, rfl⟩ ⟨(Nat.le_of_ble_eq_true rfl), (Nat.le_of_ble_eq_true rfl)⟩ rfl rfl (Nat.le_of_ble_eq_true rfl) dX5_lasts_2 (fun r1 hr1 => ?_)
  refine tr_if_eq C (tgt := 20) dX5_lasts_5 (by decide) (fun q11 => ?_) (fun q11 => ?_)
  · refine tr_bipush C (v := -2) dX5_lasts_20 (by decide) ?_
    exact tr_iret C hr hlk dX5_lasts_22
  · refine tr_iload_n C (i := 2) dX5_lasts_8 rfl rfl ?_
    refine tr_i2l C dX5_lasts_9 ?_
    refine tr_lconst C (v := 0) dX5_lasts_10 (by decide) ?_
    refine tr_ldc2 C (v := 40) w1368 dX5_lasts_11 ?_
    refine tr_cSIP C (av := [.long a2.toInt64, .long 0, .long 40]) (st := []) (kX5_in l g cs ad a2.toInt64 0 40 σ) mwX5_in w1084 ⟨rfl, rfl⟩ ⟨(Nat.le_of_ble_eq_true rfl), (Nat.le_of_ble_eq_true rfl)⟩ rfl rfl (Nat.le_of_ble_eq_true rfl) dX5_lasts_14 (fun r2 hr2 => ?_)
    refine tr_if_ne C (tgt := 23) dX5_lasts_17 (by decide) (fun q10 => ?_) (fun q10 => ?_)
    · refine tr_bipush C (v := -2) dX5_lasts_20 (by decide) ?_
      exact tr_iret C hr hlk dX5_lasts_22
    · refine tr_aload_n C (i := 0) dX5_lasts_23 rfl rfl ?_
      refine tr_cVV C (av := []) (st := []) (kX5_laysAside l g cs ad σ) mwX5_laysAside w1280 rfl rfl ⟨rfl, rfl⟩ ⟨(Nat.le_of_ble_eq_true rfl), (Nat.le_of_ble_eq_true rfl)⟩ rfl rfl (Nat.le_of_ble_eq_true rfl) dX5_lasts_24 (fun σ3 hr3 => ?_)
      refine tr_iconst C (v := 0) dX5_lasts_27 (by decide) ?_
      refine tr_istore_n C (i := 3) (lv' := [some (.ref (ad 0)), some (.int a1), some (.int a2), some (.int 0)]) dX5_lasts_28 rfl (by decide) rfl ?_
      refine tr_loop (b := fX5_lasts_L29 a1 a2) (sg := fun v => v.1) (lw := fun v => [some (.ref (ad 0)), some (.int a1), some (.int a2), some (.int v.2)]) (sw := fun v => []) (fun ih29 IH29 v => ?_) 1000 (σ3, 0)
      obtain ⟨σ29, y3_29⟩ := v
      refine tr_st (σ' := σ29) (lv' := [some (.ref (ad 0)), some (.int a1), some (.int a2), some (.int y3_29)]) (st' := []) rfl rfl rfl ?_
      refine tr_iload_n C (i := 3) dX5_lasts_29 rfl rfl ?_
      refine tr_iload_n C (i := 2) dX5_lasts_30 rfl rfl ?_
      have B55 : ∀ (σ55 : Mem) (y3_55 : Int32), Tr p l e { frames := 79, cells := 0, slots := 0, locals := 2917 } s m args below meth c g ad (shM g) A 4 (QI g ad (shM g) A below args s) (fX5_lasts_b55 a1 a2 σ55 y3_55) σ55 55 [some (.ref (ad 0)), none, some (.int a2), some (.int y3_55)] [] := by
        intro σ55 y3_55
        refine tr_aload_n C (i := 0) dX5_lasts_55 rfl rfl ?_
        refine tr_cVV C (av := []) (st := []) (kX5_laysBack l g cs ad σ55) mwX5_laysBack w1303 rfl rfl ⟨rfl, rfl⟩ ⟨(Nat.le_of_ble_eq_true rfl), (Nat.le_of_ble_eq_true rfl)⟩ rfl rfl (Nat.le_of_ble_eq_true rfl) dX5_lasts_56 (fun σ4 hr4 => ?_)
        refine tr_iload_n C (i := 3) dX5_lasts_59 rfl rfl ?_
        refine tr_iload_n C (i := 2) dX5_lasts_60 rfl rfl ?_
        refine tr_icmp_le C (tgt := 68) dX5_lasts_61 (by decide) (fun q5 => ?_) (fun q5 => ?_)
        · refine tr_iload_n C (i := 3) dX5_lasts_68 rfl rfl ?_
          exact tr_iret C hr hlk dX5_lasts_69
        · refine tr_iconst C (v := -1) dX5_lasts_64 (by decide) ?_
          refine tr_goto C (tgt := 69) dX5_lasts_65 (by decide) ?_
          exact tr_iret C hr hlk dX5_lasts_69
      refine tr_icmp_gt C (tgt := 55) dX5_lasts_31 (by decide) (fun q9 => ?_) (fun q9 => ?_)
      · refine tr_mask [true, false, true, true] rfl ?_
        exact B55 σ29 y3_29
      · refine tr_aload_n C (i := 0) dX5_lasts_34 rfl rfl ?_
        refine tr_getR C (k := 12) (ci := 5) rfl rfl rfl inT5 rfl (by decide) w960 dX5_lasts_35 ?_
        refine tr_iload_n C (i := 1) dX5_lasts_38 rfl rfl ?_
        refine tr_iald C (n := 8) rfl dX5_lasts_39 (fun h8 => ?_)
        refine tr_iconst C (v := -1) dX5_lasts_40 (by decide) ?_
        refine tr_icmp_eq C (tgt := 55) dX5_lasts_41 (by decide) (fun q7 => ?_) (fun q7 => ?_)
        · refine tr_mask [true, false, true, true] rfl ?_
          exact B55 σ29 y3_29
        · refine tr_aload_n C (i := 0) dX5_lasts_44 rfl rfl ?_
          refine tr_cVI C (av := []) (st := []) (kX5_passes l g cs ad σ29) mwX5_passes w1263 rfl rfl ⟨rfl, rfl⟩ ⟨(Nat.le_of_ble_eq_true rfl), (Nat.le_of_ble_eq_true rfl)⟩ rfl rfl (Nat.le_of_ble_eq_true rfl) dX5_lasts_45 (fun r6 σ6 hr6 => ?_)
          refine tr_pop C dX5_lasts_48 rfl ?_
          refine tr_iinc C (i := 3) (d := 1) (lv' := [some (.ref (ad 0)), some (.int a1), some (.int a2), some (.int (y3_29 + 1))]) dX5_lasts_49 rfl (by decide) (by decide) rfl ?_
          refine tr_goto C (tgt := 29) dX5_lasts_52 (by decide) ?_
          exact IH29 (σ6, y3_29 + 1)
def fX5_lowest_b31 (a1 : Int64) (a2 : Int64) (a3 : Int32) (σ : Mem) (y5_31 : Int64) : Option (Int64) :=
  if a3 = 0 then (
    gd (!(y5_31 == 0)) (
      some (a1 / y5_31)
    )
  ) else (
    gd (!(y5_31 == 0)) (
      some (a2 / y5_31)
    )
  )
def fX5_lowest_L6 (a1 : Int64) (a2 : Int64) (a3 : Int32) (σ : Mem) (ih6 : Int64 × Int64 → Option (Int64)) : Int64 × Int64 → Option (Int64) := fun v => match v with
  | (y5_6, y7_6) =>
    if (lg_cmp y7_6 0) = 0 then (
      fX5_lowest_b31 a1 a2 a3 σ y5_6
    ) else (
      gd (!(y7_6 == 0)) (
        ih6 (y7_6, y5_6 - y5_6 / y7_6 * y7_6)
      )
    )
def fX5_lowest (a1 : Int64) (a2 : Int64) (a3 : Int32) (σ : Mem) : Option (Int64) :=
  loopN (fX5_lowest_L6 a1 a2 a3 σ) 1000 (a1, a2)
set_option maxHeartbeats 4000000 in
set_option maxRecDepth 100000 in
theorem kX5_lowest (l : Launch) (g : GG) (cs : CS) (ad : Nat → Nat) (a1 : Int64) (a2 : Int64) (a3 : Int32) (σ : Mem) : CtL l g cs ad (shM g) mX5_lowest (.code mX5_lowest cX5_lowest 11 (some .long)) { frames := 0, cells := 0, slots := 0, locals := 0 } [.long a1, .long a2, .int a3] σ (pur (fX5_lowest a1 a2 a3 σ) σ) := by
  refine ctLP_intro (own := "KinInTheHeapModel") (by decide +kernel) rfl [some (.long a1), none, some (.long a2), none, some (.int a3), none, none, none, none, none, none] (Nat.le_of_ble_eq_true rfl) rfl ?_
  intro p e s m args below meth c A C hr hlk
  refine tr_lload_n C (i := 0) dX5_lowest_0 rfl rfl ?_
  refine tr_lstore C (i := 5) (lv' := [some (.long a1), none, some (.long a2), none, some (.int a3), some (.long a1), none, none, none, none, none]) dX5_lowest_1 (by decide) rfl ?_
  refine tr_lload_n C (i := 2) dX5_lowest_3 rfl rfl ?_
  refine tr_lstore C (i := 7) (lv' := [some (.long a1), none, some (.long a2), none, some (.int a3), some (.long a1), none, some (.long a2), none, none, none]) dX5_lowest_4 (by decide) rfl ?_
  refine tr_loop (b := fX5_lowest_L6 a1 a2 a3 σ) (sg := fun v => σ) (lw := fun v => [some (.long a1), none, some (.long a2), none, some (.int a3), some (.long v.1), none, some (.long v.2), none, none, none]) (sw := fun v => []) (fun ih6 IH6 v => ?_) 1000 (a1, a2)
  obtain ⟨y5_6, y7_6⟩ := v
  refine tr_st (σ' := σ) (lv' := [some (.long a1), none, some (.long a2), none, some (.int a3), some (.long y5_6), none, some (.long y7_6), none, none, none]) (st' := []) rfl rfl rfl ?_
  refine tr_lload C (i := 7) dX5_lowest_6 rfl ?_
  refine tr_lconst C (v := 0) dX5_lowest_8 (by decide) ?_
  refine tr_lcmp C dX5_lowest_9 ?_
  have B31 : ∀ (y5_31 : Int64), Tr p l e { frames := 0, cells := 0, slots := 0, locals := 0 } s m args below meth c g ad (shM g) A 11 (QPL g ad (shM g) A below args s σ) (fX5_lowest_b31 a1 a2 a3 σ y5_31) σ 31 [some (.long a1), none, some (.long a2), none, some (.int a3), some (.long y5_31), none, none, none, none, none] [] := by
    intro y5_31
    refine tr_iload C (i := 4) dX5_lowest_31 rfl ?_
    refine tr_if_ne C (tgt := 43) dX5_lowest_33 (by decide) (fun q3 => ?_) (fun q3 => ?_)
    · refine tr_lload_n C (i := 0) dX5_lowest_36 rfl rfl ?_
      refine tr_lload C (i := 5) dX5_lowest_37 rfl ?_
      refine tr_ldiv C dX5_lowest_39 (fun h2 => ?_)
      refine tr_goto C (tgt := 47) dX5_lowest_40 (by decide) ?_
      exact tr_lretP C hr hlk dX5_lowest_47
    · refine tr_lload_n C (i := 2) dX5_lowest_43 rfl rfl ?_
      refine tr_lload C (i := 5) dX5_lowest_44 rfl ?_
      refine tr_ldiv C dX5_lowest_46 (fun h1 => ?_)
      exact tr_lretP C hr hlk dX5_lowest_47
  refine tr_if_eq C (tgt := 31) dX5_lowest_10 (by decide) (fun q5 => ?_) (fun q5 => ?_)
  · refine tr_mask [true, false, true, false, true, true, false, false, false, false, false] rfl ?_
    exact B31 y5_6
  · refine tr_lload C (i := 5) dX5_lowest_13 rfl ?_
    refine tr_lload C (i := 7) dX5_lowest_15 rfl ?_
    refine tr_lrem C dX5_lowest_17 (fun h4 => ?_)
    refine tr_lstore C (i := 9) (lv' := [some (.long a1), none, some (.long a2), none, some (.int a3), some (.long y5_6), none, some (.long y7_6), none, some (.long (y5_6 - y5_6 / y7_6 * y7_6)), none]) dX5_lowest_18 (by decide) rfl ?_
    refine tr_lload C (i := 7) dX5_lowest_20 rfl ?_
    refine tr_lstore C (i := 5) (lv' := [some (.long a1), none, some (.long a2), none, some (.int a3), some (.long y7_6), none, some (.long y7_6), none, some (.long (y5_6 - y5_6 / y7_6 * y7_6)), none]) dX5_lowest_22 (by decide) rfl ?_
    refine tr_lload C (i := 9) dX5_lowest_24 rfl ?_
    refine tr_lstore C (i := 7) (lv' := [some (.long a1), none, some (.long a2), none, some (.int a3), some (.long y7_6), none, some (.long (y5_6 - y5_6 / y7_6 * y7_6)), none, some (.long (y5_6 - y5_6 / y7_6 * y7_6)), none]) dX5_lowest_26 (by decide) rfl ?_
    refine tr_goto C (tgt := 6) dX5_lowest_28 (by decide) ?_
    refine tr_mask [true, false, true, false, true, true, false, true, false, false, false] rfl ?_
    exact IH6 (y7_6, y5_6 - y5_6 / y7_6 * y7_6)
def fX5_share (a1 : Int32) (σ : Mem) : Option (Int64) :=
  bn1 (fX5_in a1.toInt64 0 1 σ) fun r1 => (
    if r1 = 0 then (
      some (-4611686018427387904)
    ) else (
      if (σ.1 0 13) ≤ 0 then (
        some (-4611686018427387904)
      ) else (
        bn1 (fX5_outMany σ) fun r2 => (
          bn1 (fX5_lowest r2.toInt64 ((σ.1 0 13).toInt64) a1 σ) fun r3 => (
            some r3
          )
        )
      )
    )
  )
set_option maxHeartbeats 4000000 in
set_option maxRecDepth 100000 in
theorem kX5_share (l : Launch) (g : GG) (cs : CS) (ad : Nat → Nat) (a1 : Int32) (σ : Mem) : CtL l g cs ad (shM g) mX5_share (.code mX5_share cX5_share 2 (some .long)) { frames := 2, cells := 0, slots := 0, locals := 43 } [.ref (ad 0), .int a1] σ (pur (fX5_share a1 σ) σ) := by
  refine ctLP_intro (own := "KinInTheHeapModel") (by decide +kernel) rfl [some (.ref (ad 0)), some (.int a1)] (Nat.le_of_ble_eq_true rfl) rfl ?_
  intro p e s m args below meth c A C hr hlk
  refine tr_iload_n C (i := 1) dX5_share_0 rfl rfl ?_
  refine tr_i2l C dX5_share_1 ?_
  refine tr_lconst C (v := 0) dX5_share_2 (by decide) ?_
  refine tr_lconst C (v := 1) dX5_share_3 (by decide) ?_
  refine tr_cSIP C (av := [.long a1.toInt64, .long 0, .long 1]) (st := []) (kX5_in l g cs ad a1.toInt64 0 1 σ) mwX5_in w1084 ⟨rfl, rfl⟩ ⟨(Nat.le_of_ble_eq_true rfl), (Nat.le_of_ble_eq_true rfl)⟩ rfl rfl (Nat.le_of_ble_eq_true rfl) dX5_share_4 (fun r1 hr1 => ?_)
  refine tr_if_eq C (tgt := 34) dX5_share_7 (by decide) (fun q5 => ?_) (fun q5 => ?_)
  · refine tr_ldc2 C (v := -4611686018427387904) w1323 dX5_share_34 ?_
    exact tr_lretP C hr hlk dX5_share_37
  · refine tr_aload_n C (i := 0) dX5_share_10 rfl rfl ?_
    refine tr_getI C (k := 13) (ci := 5) rfl rfl rfl inT5 rfl (by decide) w961 dX5_share_11 ?_
    refine tr_if_le C (tgt := 34) dX5_share_14 (by decide) (fun q4 => ?_) (fun q4 => ?_)
    · refine tr_ldc2 C (v := -4611686018427387904) w1323 dX5_share_34 ?_
      exact tr_lretP C hr hlk dX5_share_37
    · refine tr_aload_n C (i := 0) dX5_share_17 rfl rfl ?_
      refine tr_cVIP C (av := []) (st := []) (kX5_outMany l g cs ad σ) mwX5_outMany w1352 rfl rfl ⟨rfl, rfl⟩ ⟨(Nat.le_of_ble_eq_true rfl), (Nat.le_of_ble_eq_true rfl)⟩ rfl rfl (Nat.le_of_ble_eq_true rfl) dX5_share_18 (fun r2 hr2 => ?_)
      refine tr_i2l C dX5_share_21 ?_
      refine tr_aload_n C (i := 0) dX5_share_22 rfl rfl ?_
      refine tr_getI C (k := 13) (ci := 5) rfl rfl rfl inT5 rfl (by decide) w961 dX5_share_23 ?_
      refine tr_i2l C dX5_share_26 ?_
      refine tr_iload_n C (i := 1) dX5_share_27 rfl rfl ?_
      refine tr_cSLP C (av := [.long r2.toInt64, .long ((σ.1 0 13).toInt64), .int a1]) (st := []) (kX5_lowest l g cs ad r2.toInt64 ((σ.1 0 13).toInt64) a1 σ) mwX5_lowest w1373 ⟨rfl, rfl⟩ ⟨(Nat.le_of_ble_eq_true rfl), (Nat.le_of_ble_eq_true rfl)⟩ rfl rfl (Nat.le_of_ble_eq_true rfl) dX5_share_28 (fun r3 hr3 => ?_)
      refine tr_goto C (tgt := 37) dX5_share_31 (by decide) ?_
      exact tr_lretP C hr hlk dX5_share_37
def fX5_firstOther_L11 (a1 : Int32) (a2 : Int32) (ih11 : Mem × Int32 × Int32 × Int32 → Option (Int32 × Mem)) : Mem × Int32 × Int32 × Int32 → Option (Int32 × Mem) := fun v => match v with
  | (σ11, y3_11, y4_11, y5_11) =>
    gd (inB a1 4) (
      if (rd σ11 15 a1) ≤ y5_11 then (
        stp (putI σ11 0 8 y3_11) fun σw1 => (
          some (y4_11, σw1)
        )
      ) else (
        if y4_11 = (-1) then (
          stp (putI σ11 0 8 y5_11) fun σw3 => (
            bnd (fX5_goesOf a2 σw3) fun r4 σ4 => (
              gd (inB ((40 * a1) + y5_11) 160) (
                if r4 = (rd σ4 16 ((40 * a1) + y5_11)) then (
                  ih11 (σ4, y3_11, -1, y5_11 + 1)
                ) else (
                  ih11 (σ4, y3_11, y5_11, y5_11 + 1)
                )
              )
            )
          )
        ) else (
          stp (putI σ11 0 8 y3_11) fun σw2 => (
            some (y4_11, σw2)
          )
        )
      )
    )
def fX5_firstOther (a1 : Int32) (a2 : Int32) (σ : Mem) : Option (Int32 × Mem) :=
  loopN (fX5_firstOther_L11 a1 a2) 1000 (σ, σ.1 0 8, -1, 0)
set_option maxHeartbeats 4000000 in
set_option maxRecDepth 100000 in
theorem kX5_firstOther (l : Launch) (g : GG) (cs : CS) (ad : Nat → Nat) (a1 : Int32) (a2 : Int32) (σ : Mem) : CtI l g cs ad (shM g) mX5_firstOther (.code mX5_firstOther cX5_firstOther 6 (some .int)) { frames := 77, cells := 0, slots := 0, locals := 2874 } [.ref (ad 0), .int a1, .int a2] σ (fX5_firstOther a1 a2 σ) := by
  refine ctI_intro (own := "KinInTheHeapModel") (by decide +kernel) rfl [some (.ref (ad 0)), some (.int a1), some (.int a2), none, none, none] (Nat.le_of_ble_eq_true rfl) rfl ?_
  intro p e s m args below meth c A C hr hlk
  refine tr_aload_n C (i := 0) dX5_firstOther_0 rfl rfl ?_
  refine tr_getI C (k := 8) (ci := 5) rfl rfl rfl inT5 rfl (by decide) w956 dX5_firstOther_1 ?_
  refine tr_istore_n C (i := 3) (lv' := [some (.ref (ad 0)), some (.int a1), some (.int a2), some (.int (σ.1 0 8)), none, none]) dX5_firstOther_4 rfl (by decide) rfl ?_
  refine tr_iconst C (v := -1) dX5_firstOther_5 (by decide) ?_
  refine tr_istore C (i := 4) (lv' := [some (.ref (ad 0)), some (.int a1), some (.int a2), some (.int (σ.1 0 8)), some (.int (-1)), none]) dX5_firstOther_6 (by decide) rfl ?_
  refine tr_iconst C (v := 0) dX5_firstOther_8 (by decide) ?_
  refine tr_istore C (i := 5) (lv' := [some (.ref (ad 0)), some (.int a1), some (.int a2), some (.int (σ.1 0 8)), some (.int (-1)), some (.int 0)]) dX5_firstOther_9 (by decide) rfl ?_
  refine tr_loop (b := fX5_firstOther_L11 a1 a2) (sg := fun v => v.1) (lw := fun v => [some (.ref (ad 0)), some (.int a1), some (.int a2), some (.int v.2.1), some (.int v.2.2.1), some (.int v.2.2.2)]) (sw := fun v => []) (fun ih11 IH11 v => ?_) 1000 (σ, σ.1 0 8, -1, 0)
  obtain ⟨σ11, y3_11, y4_11, y5_11⟩ := v
  refine tr_st (σ' := σ11) (lv' := [some (.ref (ad 0)), some (.int a1), some (.int a2), some (.int y3_11), some (.int y4_11), some (.int y5_11)]) (st' := []) rfl rfl rfl ?_
  refine tr_iload C (i := 5) dX5_firstOther_11 rfl ?_
  refine tr_aload_n C (i := 0) dX5_firstOther_13 rfl rfl ?_
  refine tr_getR C (k := 41) (ci := 5) rfl rfl rfl inT5 rfl (by decide) w989 dX5_firstOther_14 ?_
  refine tr_iload_n C (i := 1) dX5_firstOther_17 rfl rfl ?_
  refine tr_iald C (n := 4) rfl dX5_firstOther_18 (fun h9 => ?_)
  refine tr_icmp_ge C (tgt := 68) dX5_firstOther_19 (by decide) (fun q8 => ?_) (fun q8 => ?_)
  · refine tr_aload_n C (i := 0) dX5_firstOther_68 rfl rfl ?_
    refine tr_iload_n C (i := 3) dX5_firstOther_69 rfl rfl ?_
    refine tr_putI C (k := 8) (ci := 5) (σ' := putI σ11 0 8 y3_11) rfl rfl rfl inT5 rfl (by decide) tyX5 tyX5_ok nmX5 rfl rfl w956 dX5_firstOther_70 rfl ?_
    refine tr_stp (fun σw1 eσw1 => ?_)
    refine tr_iload C (i := 4) dX5_firstOther_73 rfl ?_
    exact tr_iret C hr hlk dX5_firstOther_75
  · refine tr_iload C (i := 4) dX5_firstOther_22 rfl ?_
    refine tr_iconst C (v := -1) dX5_firstOther_24 (by decide) ?_
    refine tr_icmp_ne C (tgt := 68) dX5_firstOther_25 (by decide) (fun q7 => ?_) (fun q7 => ?_)
    · refine tr_aload_n C (i := 0) dX5_firstOther_28 rfl rfl ?_
      refine tr_iload C (i := 5) dX5_firstOther_29 rfl ?_
      refine tr_putI C (k := 8) (ci := 5) (σ' := putI σ11 0 8 y5_11) rfl rfl rfl inT5 rfl (by decide) tyX5 tyX5_ok nmX5 rfl rfl w956 dX5_firstOther_31 rfl ?_
      refine tr_stp (fun σw3 eσw3 => ?_)
      refine tr_aload_n C (i := 0) dX5_firstOther_34 rfl rfl ?_
      refine tr_iload_n C (i := 2) dX5_firstOther_35 rfl rfl ?_
      refine tr_cVI C (av := [.int a2]) (st := []) (kX5_goesOf l g cs ad a2 σw3) mwX5_goesOf w1112 rfl rfl ⟨rfl, rfl⟩ ⟨(Nat.le_of_ble_eq_true rfl), (Nat.le_of_ble_eq_true rfl)⟩ rfl rfl (Nat.le_of_ble_eq_true rfl) dX5_firstOther_36 (fun r4 σ4 hr4 => ?_)
      refine tr_aload_n C (i := 0) dX5_firstOther_39 rfl rfl ?_
      refine tr_getR C (k := 42) (ci := 5) rfl rfl rfl inT5 rfl (by decide) w990 dX5_firstOther_40 ?_
      refine tr_bipush C (v := 40) dX5_firstOther_43 (by decide) ?_
      refine tr_iload_n C (i := 1) dX5_firstOther_45 rfl rfl ?_
      refine tr_imul C dX5_firstOther_46 ?_
      refine tr_iload C (i := 5) dX5_firstOther_47 rfl ?_
      refine tr_iadd C dX5_firstOther_49 ?_
      refine tr_iald C (n := 160) rfl dX5_firstOther_50 (fun h6 => ?_)
      refine tr_icmp_ne C (tgt := 58) dX5_firstOther_51 (by decide) (fun q5 => ?_) (fun q5 => ?_)
      · refine tr_iconst C (v := -1) dX5_firstOther_54 (by decide) ?_
        refine tr_goto C (tgt := 60) dX5_firstOther_55 (by decide) ?_
        refine tr_istore C (i := 4) (lv' := [some (.ref (ad 0)), some (.int a1), some (.int a2), some (.int y3_11), some (.int (-1)), some (.int y5_11)]) dX5_firstOther_60 (by decide) rfl ?_
        refine tr_iinc C (i := 5) (d := 1) (lv' := [some (.ref (ad 0)), some (.int a1), some (.int a2), some (.int y3_11), some (.int (-1)), some (.int (y5_11 + 1))]) dX5_firstOther_62 rfl (by decide) (by decide) rfl ?_
        refine tr_goto C (tgt := 11) dX5_firstOther_65 (by decide) ?_
        exact IH11 (σ4, y3_11, -1, y5_11 + 1)
      · refine tr_iload C (i := 5) dX5_firstOther_58 rfl ?_
        refine tr_istore C (i := 4) (lv' := [some (.ref (ad 0)), some (.int a1), some (.int a2), some (.int y3_11), some (.int y5_11), some (.int y5_11)]) dX5_firstOther_60 (by decide) rfl ?_
        refine tr_iinc C (i := 5) (d := 1) (lv' := [some (.ref (ad 0)), some (.int a1), some (.int a2), some (.int y3_11), some (.int y5_11), some (.int (y5_11 + 1))]) dX5_firstOther_62 rfl (by decide) (by decide) rfl ?_
        refine tr_goto C (tgt := 11) dX5_firstOther_65 (by decide) ?_
        exact IH11 (σ4, y3_11, y5_11, y5_11 + 1)
    · refine tr_aload_n C (i := 0) dX5_firstOther_68 rfl rfl ?_
      refine tr_iload_n C (i := 3) dX5_firstOther_69 rfl rfl ?_
      refine tr_putI C (k := 8) (ci := 5) (σ' := putI σ11 0 8 y3_11) rfl rfl rfl inT5 rfl (by decide) tyX5 tyX5_ok nmX5 rfl rfl w956 dX5_firstOther_70 rfl ?_
      refine tr_stp (fun σw2 eσw2 => ?_)
      refine tr_iload C (i := 4) dX5_firstOther_73 rfl ?_
      exact tr_iret C hr hlk dX5_firstOther_75
def fX5_likeSet_L4 (a1 : Int32) (ih4 : Mem × Int32 × Int32 → Option (Int32 × Mem)) : Mem × Int32 × Int32 → Option (Int32 × Mem) := fun v => match v with
  | (σ4, y2_4, y3_4) =>
    if (σ4.1 0 13) ≤ y3_4 then (
      some (y2_4, σ4)
    ) else (
      gd (inB y3_4 8) (
        if (rd σ4 7 y3_4) = (-1) then (
          ih4 (σ4, y2_4 ||| (0 <<< (y3_4 &&& 31)), y3_4 + 1)
        ) else (
          bnd (fX5_firstOther a1 y3_4 σ4) fun r1 σ1 => (
            if r1 = (-1) then (
              ih4 (σ1, y2_4 ||| (1 <<< (y3_4 &&& 31)), y3_4 + 1)
            ) else (
              ih4 (σ1, y2_4 ||| (0 <<< (y3_4 &&& 31)), y3_4 + 1)
            )
          )
        )
      )
    )
def fX5_likeSet (a1 : Int32) (σ : Mem) : Option (Int32 × Mem) :=
  loopN (fX5_likeSet_L4 a1) 1000 (σ, 0, 0)
set_option maxHeartbeats 4000000 in
set_option maxRecDepth 100000 in
theorem kX5_likeSet (l : Launch) (g : GG) (cs : CS) (ad : Nat → Nat) (a1 : Int32) (σ : Mem) : CtI l g cs ad (shM g) mX5_likeSet (.code mX5_likeSet cX5_likeSet 4 (some .int)) { frames := 78, cells := 0, slots := 0, locals := 2899 } [.ref (ad 0), .int a1] σ (fX5_likeSet a1 σ) := by
  refine ctI_intro (own := "KinInTheHeapModel") (by decide +kernel) rfl [some (.ref (ad 0)), some (.int a1), none, none] (Nat.le_of_ble_eq_true rfl) rfl ?_
  intro p e s m args below meth c A C hr hlk
  refine tr_iconst C (v := 0) dX5_likeSet_0 (by decide) ?_
  refine tr_istore_n C (i := 2) (lv' := [some (.ref (ad 0)), some (.int a1), some (.int 0), none]) dX5_likeSet_1 rfl (by decide) rfl ?_
  refine tr_iconst C (v := 0) dX5_likeSet_2 (by decide) ?_
  refine tr_istore_n C (i := 3) (lv' := [some (.ref (ad 0)), some (.int a1), some (.int 0), some (.int 0)]) dX5_likeSet_3 rfl (by decide) rfl ?_
  refine tr_loop (b := fX5_likeSet_L4 a1) (sg := fun v => v.1) (lw := fun v => [some (.ref (ad 0)), some (.int a1), some (.int v.2.1), some (.int v.2.2)]) (sw := fun v => []) (fun ih4 IH4 v => ?_) 1000 (σ, 0, 0)
  obtain ⟨σ4, y2_4, y3_4⟩ := v
  refine tr_st (σ' := σ4) (lv' := [some (.ref (ad 0)), some (.int a1), some (.int y2_4), some (.int y3_4)]) (st' := []) rfl rfl rfl ?_
  refine tr_iload_n C (i := 3) dX5_likeSet_4 rfl rfl ?_
  refine tr_aload_n C (i := 0) dX5_likeSet_5 rfl rfl ?_
  refine tr_getI C (k := 13) (ci := 5) rfl rfl rfl inT5 rfl (by decide) w961 dX5_likeSet_6 ?_
  refine tr_icmp_ge C (tgt := 48) dX5_likeSet_9 (by decide) (fun q5 => ?_) (fun q5 => ?_)
  · refine tr_iload_n C (i := 2) dX5_likeSet_48 rfl rfl ?_
    exact tr_iret C hr hlk dX5_likeSet_49
  · refine tr_iload_n C (i := 2) dX5_likeSet_12 rfl rfl ?_
    refine tr_aload_n C (i := 0) dX5_likeSet_13 rfl rfl ?_
    refine tr_getR C (k := 12) (ci := 5) rfl rfl rfl inT5 rfl (by decide) w960 dX5_likeSet_14 ?_
    refine tr_iload_n C (i := 3) dX5_likeSet_17 rfl rfl ?_
    refine tr_iald C (n := 8) rfl dX5_likeSet_18 (fun h4 => ?_)
    refine tr_iconst C (v := -1) dX5_likeSet_19 (by decide) ?_
    refine tr_icmp_eq C (tgt := 37) dX5_likeSet_20 (by decide) (fun q3 => ?_) (fun q3 => ?_)
    · refine tr_iconst C (v := 0) dX5_likeSet_37 (by decide) ?_
      refine tr_iload_n C (i := 3) dX5_likeSet_38 rfl rfl ?_
      refine tr_ishl C dX5_likeSet_39 ?_
      refine tr_ior C dX5_likeSet_40 ?_
      refine tr_istore_n C (i := 2) (lv' := [some (.ref (ad 0)), some (.int a1), some (.int (y2_4 ||| (0 <<< (y3_4 &&& 31)))), some (.int y3_4)]) dX5_likeSet_41 rfl (by decide) rfl ?_
      refine tr_iinc C (i := 3) (d := 1) (lv' := [some (.ref (ad 0)), some (.int a1), some (.int (y2_4 ||| (0 <<< (y3_4 &&& 31)))), some (.int (y3_4 + 1))]) dX5_likeSet_42 rfl (by decide) (by decide) rfl ?_
      refine tr_goto C (tgt := 4) dX5_likeSet_45 (by decide) ?_
      exact IH4 (σ4, y2_4 ||| (0 <<< (y3_4 &&& 31)), y3_4 + 1)
    · refine tr_aload_n C (i := 0) dX5_likeSet_23 rfl rfl ?_
      refine tr_iload_n C (i := 1) dX5_likeSet_24 rfl rfl ?_
      refine tr_iload_n C (i := 3) dX5_likeSet_25 rfl rfl ?_
      refine tr_cVI C (av := [.int a1, .int y3_4]) (st := [.int y2_4]) (kX5_firstOther l g cs ad a1 y3_4 σ4) mwX5_firstOther w1381 rfl rfl ⟨rfl, rfl⟩ ⟨(Nat.le_of_ble_eq_true rfl), (Nat.le_of_ble_eq_true rfl)⟩ rfl rfl (Nat.le_of_ble_eq_true rfl) dX5_likeSet_26 (fun r1 σ1 hr1 => ?_)
      refine tr_iconst C (v := -1) dX5_likeSet_29 (by decide) ?_
      refine tr_icmp_ne C (tgt := 37) dX5_likeSet_30 (by decide) (fun q2 => ?_) (fun q2 => ?_)
      · refine tr_iconst C (v := 1) dX5_likeSet_33 (by decide) ?_
        refine tr_goto C (tgt := 38) dX5_likeSet_34 (by decide) ?_
        refine tr_iload_n C (i := 3) dX5_likeSet_38 rfl rfl ?_
        refine tr_ishl C dX5_likeSet_39 ?_
        refine tr_ior C dX5_likeSet_40 ?_
        refine tr_istore_n C (i := 2) (lv' := [some (.ref (ad 0)), some (.int a1), some (.int (y2_4 ||| (1 <<< (y3_4 &&& 31)))), some (.int y3_4)]) dX5_likeSet_41 rfl (by decide) rfl ?_
        refine tr_iinc C (i := 3) (d := 1) (lv' := [some (.ref (ad 0)), some (.int a1), some (.int (y2_4 ||| (1 <<< (y3_4 &&& 31)))), some (.int (y3_4 + 1))]) dX5_likeSet_42 rfl (by decide) (by decide) rfl ?_
        refine tr_goto C (tgt := 4) dX5_likeSet_45 (by decide) ?_
        exact IH4 (σ1, y2_4 ||| (1 <<< (y3_4 &&& 31)), y3_4 + 1)
      · refine tr_iconst C (v := 0) dX5_likeSet_37 (by decide) ?_
        refine tr_iload_n C (i := 3) dX5_likeSet_38 rfl rfl ?_
        refine tr_ishl C dX5_likeSet_39 ?_
        refine tr_ior C dX5_likeSet_40 ?_
        refine tr_istore_n C (i := 2) (lv' := [some (.ref (ad 0)), some (.int a1), some (.int (y2_4 ||| (0 <<< (y3_4 &&& 31)))), some (.int y3_4)]) dX5_likeSet_41 rfl (by decide) rfl ?_
        refine tr_iinc C (i := 3) (d := 1) (lv' := [some (.ref (ad 0)), some (.int a1), some (.int (y2_4 ||| (0 <<< (y3_4 &&& 31)))), some (.int (y3_4 + 1))]) dX5_likeSet_42 rfl (by decide) (by decide) rfl ?_
        refine tr_goto C (tgt := 4) dX5_likeSet_45 (by decide) ?_
        exact IH4 (σ1, y2_4 ||| (0 <<< (y3_4 &&& 31)), y3_4 + 1)
def fX5_tells_b76 (a1 : Int32) (a2 : Int32) (a3 : Int32) (σ76 : Mem) : Option (Int32 × Mem) :=
  if a3 = 0 then (
    bnd (fX5_firstOther a1 a2 σ76) fun r5 σ5 => (
      some (r5, σ5)
    )
  ) else (
    bnd (fX5_likeSet a1 σ76) fun r4 σ4 => (
      some (r4, σ4)
    )
  )
def fX5_tells_b260 (a1 : Int32) (a2 : Int32) (a3 : Int32) (σ260 : Mem) (y4_260 : Int32) (y5_260 : Int32) (y7_260 : Int32) (y8_260 : Int32) (y9_260 : Int32) : Option (Int32 × Mem) :=
  bn1 (fX5_lays y4_260 a2 y5_260 σ260) fun σ8 => (
    if a3 = 3 then (
      some (y8_260, σ8)
    ) else (
      if a3 = 4 then (
        some (y9_260, σ8)
      ) else (
        some (y7_260, σ8)
      )
    )
  )
def fX5_tells_L203 (a1 : Int32) (a2 : Int32) (a3 : Int32) (ih203 : Mem × Int32 × Int32 × Int32 × Int32 × Int32 × Int32 → Option (Int32 × Mem)) : Mem × Int32 × Int32 × Int32 × Int32 × Int32 × Int32 → Option (Int32 × Mem) := fun v => match v with
  | (σ203, y4_203, y5_203, y7_203, y8_203, y9_203, y10_203) =>
    if y10_203 < 0 then (
      fX5_tells_b260 a1 a2 a3 σ203 y4_203 y5_203 y7_203 y8_203 y9_203
    ) else (
      bn1 (fX5_lays y4_203 a2 y10_203 σ203) fun σ11 => (
        bnd (fX5_firstOther a1 a2 σ11) fun r12 σ12 => (
          if r12 = (-1) then (
            if 10 ≤ y10_203 then (
              ih203 (σ12, y4_203, y5_203, y7_203 ||| 0, y8_203 + 1, y10_203, y10_203 + (-1))
            ) else (
              ih203 (σ12, y4_203, y5_203, y7_203 ||| (1 <<< (y10_203 &&& 31)), y8_203 + 1, y10_203, y10_203 + (-1))
            )
          ) else (
            ih203 (σ12, y4_203, y5_203, y7_203, y8_203, y9_203, y10_203 + (-1))
          )
        )
      )
    )
def fX5_tells_b147 (a1 : Int32) (a2 : Int32) (a3 : Int32) (σ147 : Mem) (y4_147 : Int32) (z0_147 : Int32) : Option (Int32 × Mem) :=
  if y4_147 = 6 then (
    loopN (fX5_tells_L203 a1 a2 a3) 1000 (σ147, y4_147, z0_147, 0, 0, -1, (σ147.1 0 3) - 1)
  ) else (
    if y4_147 = 5 then (
      loopN (fX5_tells_L203 a1 a2 a3) 1000 (σ147, y4_147, z0_147, 0, 0, -1, 5)
    ) else (
      if y4_147 = 3 then (
        loopN (fX5_tells_L203 a1 a2 a3) 1000 (σ147, y4_147, z0_147, 0, 0, -1, 9)
      ) else (
        loopN (fX5_tells_L203 a1 a2 a3) 1000 (σ147, y4_147, z0_147, 0, 0, -1, 99)
      )
    )
  )
def fX5_tells_b124 (a1 : Int32) (a2 : Int32) (a3 : Int32) (σ124 : Mem) (z0_124 : Int32) : Option (Int32 × Mem) :=
  if z0_124 = 6 then (
    fX5_tells_b147 a1 a2 a3 σ124 z0_124 (σ124.1 0 4)
  ) else (
    bnd (fX5_told a2 z0_124 σ124) fun r7 σ7 => (
      fX5_tells_b147 a1 a2 a3 σ7 z0_124 r7
    )
  )
def fX5_tells (a1 : Int32) (a2 : Int32) (a3 : Int32) (σ : Mem) : Option (Int32 × Mem) :=
  bn1 (fX5_isSheet a1 σ) fun r1 => (
    if r1 = 0 then (
      some (-2, σ)
    ) else (
      bn1 (fX5_isOne a2 σ) fun r2 => (
        if r2 = 0 then (
          some (-2, σ)
        ) else (
          gd (inB a2 8) (
            if (rd σ 7 a2) = (-1) then (
              some (-2, σ)
            ) else (
              bn1 (fX5_in a3.toInt64 0 6 σ) fun r3 => (
                if r3 = 0 then (
                  some (-2, σ)
                ) else (
                  gd (inB a1 4) (
                    if (rd σ 13 a1) = 0 then (
                      some (-11, σ)
                    ) else (
                      gd (inB a1 4) (
                        if (rd σ 15 a1) ≤ 10 then (
                          if a3 = 0 then (
                            fX5_tells_b76 a1 a2 a3 σ
                          ) else (
                            if a3 = 6 then (
                              fX5_tells_b76 a1 a2 a3 σ
                            ) else (
                              if a3 = 1 then (
                                fX5_tells_b124 a1 a2 a3 σ 5
                              ) else (
                                if a3 = 2 then (
                                  fX5_tells_b124 a1 a2 a3 σ 3
                                ) else (
                                  if a3 = 5 then (
                                    fX5_tells_b124 a1 a2 a3 σ 6
                                  ) else (
                                    fX5_tells_b124 a1 a2 a3 σ 0
                                  )
                                )
                              )
                            )
                          )
                        ) else (
                          some (-2, σ)
                        )
                      )
                    )
                  )
                )
              )
            )
          )
        )
      )
    )
  )
set_option maxHeartbeats 4000000 in
set_option maxRecDepth 100000 in
theorem kX5_tells (l : Launch) (g : GG) (cs : CS) (ad : Nat → Nat) (a1 : Int32) (a2 : Int32) (a3 : Int32) (σ : Mem) : CtI l g cs ad (shM g) mX5_tells (.code mX5_tells cX5_tells 11 (some .int)) { frames := 79, cells := 0, slots := 0, locals := 2922 } [.ref (ad 0), .int a1, .int a2, .int a3] σ (fX5_tells a1 a2 a3 σ) := by
  refine ctI_intro (own := "KinInTheHeapModel") (by decide +kernel) rfl [some (.ref (ad 0)), some (.int a1), some (.int a2), some (.int a3), none, none, none, none, none, none, none] (Nat.le_of_ble_eq_true rfl) rfl ?_
  intro p e s m args below meth c A C hr hlk
  refine tr_iload_n C (i := 1) dX5_tells_0 rfl rfl ?_
  refine tr_cSIP C (av := [.int a1]) (st := []) (kX5_isSheet l g cs ad a1 σ) mwX5_isSheet w1271 ⟨rfl, rfl⟩ ⟨(Nat.le_of_ble_eq_true rfl), (Nat.le_of_ble_eq_true rfl)⟩ rfl rfl (Nat.le_of_ble_eq_true rfl) dX5_tells_1 (fun r1 hr1 => ?_)
  refine tr_if_eq C (tgt := 37) dX5_tells_4 (by decide) (fun q48 => ?_) (fun q48 => ?_)
  · refine tr_bipush C (v := -2) dX5_tells_37 (by decide) ?_
    exact tr_iret C hr hlk dX5_tells_39
  · refine tr_aload_n C (i := 0) dX5_tells_7 rfl rfl ?_
    refine tr_iload_n C (i := 2) dX5_tells_8 rfl rfl ?_
    refine tr_cVIP C (av := [.int a2]) (st := []) (kX5_isOne l g cs ad a2 σ) mwX5_isOne w1095 rfl rfl ⟨rfl, rfl⟩ ⟨(Nat.le_of_ble_eq_true rfl), (Nat.le_of_ble_eq_true rfl)⟩ rfl rfl (Nat.le_of_ble_eq_true rfl) dX5_tells_9 (fun r2 hr2 => ?_)
    refine tr_if_eq C (tgt := 37) dX5_tells_12 (by decide) (fun q47 => ?_) (fun q47 => ?_)
    · refine tr_bipush C (v := -2) dX5_tells_37 (by decide) ?_
      exact tr_iret C hr hlk dX5_tells_39
    · refine tr_aload_n C (i := 0) dX5_tells_15 rfl rfl ?_
      refine tr_getR C (k := 12) (ci := 5) rfl rfl rfl inT5 rfl (by decide) w960 dX5_tells_16 ?_
      refine tr_iload_n C (i := 2) dX5_tells_19 rfl rfl ?_
      refine tr_iald C (n := 8) rfl dX5_tells_20 (fun h46 => ?_)
      refine tr_iconst C (v := -1) dX5_tells_21 (by decide) ?_
      refine tr_icmp_eq C (tgt := 37) dX5_tells_22 (by decide) (fun q45 => ?_) (fun q45 => ?_)
      · refine tr_bipush C (v := -2) dX5_tells_37 (by decide) ?_
        exact tr_iret C hr hlk dX5_tells_39
      · refine tr_iload_n C (i := 3) dX5_tells_25 rfl rfl ?_
        refine tr_i2l C dX5_tells_26 ?_
        refine tr_lconst C (v := 0) dX5_tells_27 (by decide) ?_
        refine tr_ldc2 C (v := 6) w1380 dX5_tells_28 ?_
        refine tr_cSIP C (av := [.long a3.toInt64, .long 0, .long 6]) (st := []) (kX5_in l g cs ad a3.toInt64 0 6 σ) mwX5_in w1084 ⟨rfl, rfl⟩ ⟨(Nat.le_of_ble_eq_true rfl), (Nat.le_of_ble_eq_true rfl)⟩ rfl rfl (Nat.le_of_ble_eq_true rfl) dX5_tells_31 (fun r3 hr3 => ?_)
        refine tr_if_ne C (tgt := 40) dX5_tells_34 (by decide) (fun q44 => ?_) (fun q44 => ?_)
        · refine tr_bipush C (v := -2) dX5_tells_37 (by decide) ?_
          exact tr_iret C hr hlk dX5_tells_39
        · refine tr_aload_n C (i := 0) dX5_tells_40 rfl rfl ?_
          refine tr_getR C (k := 39) (ci := 5) rfl rfl rfl inT5 rfl (by decide) w987 dX5_tells_41 ?_
          refine tr_iload_n C (i := 1) dX5_tells_44 rfl rfl ?_
          refine tr_zald C (n := 4) rfl dX5_tells_45 (fun h43 => ?_)
          refine tr_if_ne C (tgt := 52) dX5_tells_46 (by decide) (fun q42 => ?_) (fun q42 => ?_)
          · refine tr_bipush C (v := -11) dX5_tells_49 (by decide) ?_
            exact tr_iret C hr hlk dX5_tells_51
          · refine tr_aload_n C (i := 0) dX5_tells_52 rfl rfl ?_
            refine tr_getR C (k := 41) (ci := 5) rfl rfl rfl inT5 rfl (by decide) w989 dX5_tells_53 ?_
            refine tr_iload_n C (i := 1) dX5_tells_56 rfl rfl ?_
            refine tr_iald C (n := 4) rfl dX5_tells_57 (fun h41 => ?_)
            refine tr_bipush C (v := 10) dX5_tells_58 (by decide) ?_
            refine tr_icmp_le C (tgt := 66) dX5_tells_60 (by decide) (fun q40 => ?_) (fun q40 => ?_)
            · refine tr_iload_n C (i := 3) dX5_tells_66 rfl rfl ?_
              have B76 : ∀ (σ76 : Mem), Tr p l e { frames := 79, cells := 0, slots := 0, locals := 2922 } s m args below meth c g ad (shM g) A 11 (QI g ad (shM g) A below args s) (fX5_tells_b76 a1 a2 a3 σ76) σ76 76 [some (.ref (ad 0)), some (.int a1), some (.int a2), some (.int a3), none, none, none, none, none, none, none] [] := by
                intro σ76
                refine tr_iload_n C (i := 3) dX5_tells_76 rfl rfl ?_
                refine tr_if_ne C (tgt := 89) dX5_tells_77 (by decide) (fun q6 => ?_) (fun q6 => ?_)
                · refine tr_aload_n C (i := 0) dX5_tells_80 rfl rfl ?_
                  refine tr_iload_n C (i := 1) dX5_tells_81 rfl rfl ?_
                  refine tr_iload_n C (i := 2) dX5_tells_82 rfl rfl ?_
                  refine tr_cVI C (av := [.int a1, .int a2]) (st := []) (kX5_firstOther l g cs ad a1 a2 σ76) mwX5_firstOther w1381 rfl rfl ⟨rfl, rfl⟩ ⟨(Nat.le_of_ble_eq_true rfl), (Nat.le_of_ble_eq_true rfl)⟩ rfl rfl (Nat.le_of_ble_eq_true rfl) dX5_tells_83 (fun r5 σ5 hr5 => ?_)
                  refine tr_goto C (tgt := 94) dX5_tells_86 (by decide) ?_
                  exact tr_iret C hr hlk dX5_tells_94
                · refine tr_aload_n C (i := 0) dX5_tells_89 rfl rfl ?_
                  refine tr_iload_n C (i := 1) dX5_tells_90 rfl rfl ?_
                  refine tr_cVI C (av := [.int a1]) (st := []) (kX5_likeSet l g cs ad a1 σ76) mwX5_likeSet w1385 rfl rfl ⟨rfl, rfl⟩ ⟨(Nat.le_of_ble_eq_true rfl), (Nat.le_of_ble_eq_true rfl)⟩ rfl rfl (Nat.le_of_ble_eq_true rfl) dX5_tells_91 (fun r4 σ4 hr4 => ?_)
                  exact tr_iret C hr hlk dX5_tells_94
              refine tr_if_eq C (tgt := 76) dX5_tells_67 (by decide) (fun q39 => ?_) (fun q39 => ?_)
              · exact B76 σ
              · refine tr_iload_n C (i := 3) dX5_tells_70 rfl rfl ?_
                refine tr_bipush C (v := 6) dX5_tells_71 (by decide) ?_
                refine tr_icmp_ne C (tgt := 95) dX5_tells_73 (by decide) (fun q38 => ?_) (fun q38 => ?_)
                · exact B76 σ
                · refine tr_iload_n C (i := 3) dX5_tells_95 rfl rfl ?_
                  refine tr_iconst C (v := 1) dX5_tells_96 (by decide) ?_
                  have B124 : ∀ (σ124 : Mem) (z0_124 : Int32), Tr p l e { frames := 79, cells := 0, slots := 0, locals := 2922 } s m args below meth c g ad (shM g) A 11 (QI g ad (shM g) A below args s) (fX5_tells_b124 a1 a2 a3 σ124 z0_124) σ124 124 [some (.ref (ad 0)), some (.int a1), some (.int a2), some (.int a3), none, none, none, none, none, none, none] [.int z0_124] := by
                    intro σ124 z0_124
                    refine tr_istore C (i := 4) (lv' := [some (.ref (ad 0)), some (.int a1), some (.int a2), some (.int a3), some (.int z0_124), none, none, none, none, none, none]) dX5_tells_124 (by decide) rfl ?_
                    refine tr_iload C (i := 4) dX5_tells_126 rfl ?_
                    refine tr_bipush C (v := 6) dX5_tells_128 (by decide) ?_
                    have B147 : ∀ (σ147 : Mem) (y4_147 : Int32) (z0_147 : Int32), Tr p l e { frames := 79, cells := 0, slots := 0, locals := 2922 } s m args below meth c g ad (shM g) A 11 (QI g ad (shM g) A below args s) (fX5_tells_b147 a1 a2 a3 σ147 y4_147 z0_147) σ147 147 [some (.ref (ad 0)), some (.int a1), some (.int a2), some (.int a3), some (.int y4_147), none, none, none, none, none, none] [.int z0_147] := by
                      intro σ147 y4_147 z0_147
                      refine tr_istore C (i := 5) (lv' := [some (.ref (ad 0)), some (.int a1), some (.int a2), some (.int a3), some (.int y4_147), some (.int z0_147), none, none, none, none, none]) dX5_tells_147 (by decide) rfl ?_
                      refine tr_iload C (i := 4) dX5_tells_149 rfl ?_
                      refine tr_bipush C (v := 6) dX5_tells_151 (by decide) ?_
                      refine tr_icmp_ne C (tgt := 165) dX5_tells_153 (by decide) (fun q33 => ?_) (fun q33 => ?_)
                      · refine tr_aload_n C (i := 0) dX5_tells_156 rfl rfl ?_
                        refine tr_getI C (k := 3) (ci := 5) rfl rfl rfl inT5 rfl (by decide) w951 dX5_tells_157 ?_
                        refine tr_iconst C (v := 1) dX5_tells_160 (by decide) ?_
                        refine tr_isub C dX5_tells_161 ?_
                        refine tr_goto C (tgt := 188) dX5_tells_162 (by decide) ?_
                        refine tr_istore C (i := 6) (lv' := [some (.ref (ad 0)), some (.int a1), some (.int a2), some (.int a3), some (.int y4_147), some (.int z0_147), some (.int ((σ147.1 0 3) - 1)), none, none, none, none]) dX5_tells_188 (by decide) rfl ?_
                        refine tr_iconst C (v := 0) dX5_tells_190 (by decide) ?_
                        refine tr_istore C (i := 7) (lv' := [some (.ref (ad 0)), some (.int a1), some (.int a2), some (.int a3), some (.int y4_147), some (.int z0_147), some (.int ((σ147.1 0 3) - 1)), some (.int 0), none, none, none]) dX5_tells_191 (by decide) rfl ?_
                        refine tr_iconst C (v := 0) dX5_tells_193 (by decide) ?_
                        refine tr_istore C (i := 8) (lv' := [some (.ref (ad 0)), some (.int a1), some (.int a2), some (.int a3), some (.int y4_147), some (.int z0_147), some (.int ((σ147.1 0 3) - 1)), some (.int 0), some (.int 0), none, none]) dX5_tells_194 (by decide) rfl ?_
                        refine tr_iconst C (v := -1) dX5_tells_196 (by decide) ?_
                        refine tr_istore C (i := 9) (lv' := [some (.ref (ad 0)), some (.int a1), some (.int a2), some (.int a3), some (.int y4_147), some (.int z0_147), some (.int ((σ147.1 0 3) - 1)), some (.int 0), some (.int 0), some (.int (-1)), none]) dX5_tells_197 (by decide) rfl ?_
                        refine tr_iload C (i := 6) dX5_tells_199 rfl ?_
                        refine tr_istore C (i := 10) (lv' := [some (.ref (ad 0)), some (.int a1), some (.int a2), some (.int a3), some (.int y4_147), some (.int z0_147), some (.int ((σ147.1 0 3) - 1)), some (.int 0), some (.int 0), some (.int (-1)), some (.int ((σ147.1 0 3) - 1))]) dX5_tells_201 (by decide) rfl ?_
                        refine tr_mask [true, true, true, true, true, true, false, true, true, true, true] rfl ?_
                        refine tr_loop (b := fX5_tells_L203 a1 a2 a3) (sg := fun v => v.1) (lw := fun v => [some (.ref (ad 0)), some (.int a1), some (.int a2), some (.int a3), some (.int v.2.1), some (.int v.2.2.1), none, some (.int v.2.2.2.1), some (.int v.2.2.2.2.1), some (.int v.2.2.2.2.2.1), some (.int v.2.2.2.2.2.2)]) (sw := fun v => []) (fun ih203 IH203 v => ?_) 1000 (σ147, y4_147, z0_147, 0, 0, -1, (σ147.1 0 3) - 1)
                        obtain ⟨σ203, y4_203, y5_203, y7_203, y8_203, y9_203, y10_203⟩ := v
                        refine tr_st (σ' := σ203) (lv' := [some (.ref (ad 0)), some (.int a1), some (.int a2), some (.int a3), some (.int y4_203), some (.int y5_203), none, some (.int y7_203), some (.int y8_203), some (.int y9_203), some (.int y10_203)]) (st' := []) rfl rfl rfl ?_
                        refine tr_iload C (i := 10) dX5_tells_203 rfl ?_
                        have B260 : ∀ (σ260 : Mem) (y4_260 : Int32) (y5_260 : Int32) (y7_260 : Int32) (y8_260 : Int32) (y9_260 : Int32), Tr p l e { frames := 79, cells := 0, slots := 0, locals := 2922 } s m args below meth c g ad (shM g) A 11 (QI g ad (shM g) A below args s) (fX5_tells_b260 a1 a2 a3 σ260 y4_260 y5_260 y7_260 y8_260 y9_260) σ260 260 [some (.ref (ad 0)), none, some (.int a2), some (.int a3), some (.int y4_260), some (.int y5_260), none, some (.int y7_260), some (.int y8_260), some (.int y9_260), none] [] := by
                          intro σ260 y4_260 y5_260 y7_260 y8_260 y9_260
                          refine tr_aload_n C (i := 0) dX5_tells_260 rfl rfl ?_
                          refine tr_iload C (i := 4) dX5_tells_261 rfl ?_
                          refine tr_iload_n C (i := 2) dX5_tells_263 rfl rfl ?_
                          refine tr_iload C (i := 5) dX5_tells_264 rfl ?_
                          refine tr_cVV C (av := [.int y4_260, .int a2, .int y5_260]) (st := []) (kX5_lays l g cs ad y4_260 a2 y5_260 σ260) mwX5_lays w1208 rfl rfl ⟨rfl, rfl⟩ ⟨(Nat.le_of_ble_eq_true rfl), (Nat.le_of_ble_eq_true rfl)⟩ rfl rfl (Nat.le_of_ble_eq_true rfl) dX5_tells_266 (fun σ8 hr8 => ?_)
                          refine tr_iload_n C (i := 3) dX5_tells_269 rfl rfl ?_
                          refine tr_iconst C (v := 3) dX5_tells_270 (by decide) ?_
                          refine tr_icmp_ne C (tgt := 279) dX5_tells_271 (by decide) (fun q10 => ?_) (fun q10 => ?_)
                          · refine tr_iload C (i := 8) dX5_tells_274 rfl ?_
                            refine tr_goto C (tgt := 291) dX5_tells_276 (by decide) ?_
                            exact tr_iret C hr hlk dX5_tells_291
                          · refine tr_iload_n C (i := 3) dX5_tells_279 rfl rfl ?_
                            refine tr_iconst C (v := 4) dX5_tells_280 (by decide) ?_
                            refine tr_icmp_ne C (tgt := 289) dX5_tells_281 (by decide) (fun q9 => ?_) (fun q9 => ?_)
                            · refine tr_iload C (i := 9) dX5_tells_284 rfl ?_
                              refine tr_goto C (tgt := 291) dX5_tells_286 (by decide) ?_
                              exact tr_iret C hr hlk dX5_tells_291
                            · refine tr_iload C (i := 7) dX5_tells_289 rfl ?_
                              exact tr_iret C hr hlk dX5_tells_291
                        refine tr_if_lt C (tgt := 260) dX5_tells_205 (by decide) (fun q32 => ?_) (fun q32 => ?_)
                        · refine tr_mask [true, false, true, true, true, true, false, true, true, true, false] rfl ?_
                          exact B260 σ203 y4_203 y5_203 y7_203 y8_203 y9_203
                        · refine tr_aload_n C (i := 0) dX5_tells_208 rfl rfl ?_
                          refine tr_iload C (i := 4) dX5_tells_209 rfl ?_
                          refine tr_iload_n C (i := 2) dX5_tells_211 rfl rfl ?_
                          refine tr_iload C (i := 10) dX5_tells_212 rfl ?_
                          refine tr_cVV C (av := [.int y4_203, .int a2, .int y10_203]) (st := []) (kX5_lays l g cs ad y4_203 a2 y10_203 σ203) mwX5_lays w1208 rfl rfl ⟨rfl, rfl⟩ ⟨(Nat.le_of_ble_eq_true rfl), (Nat.le_of_ble_eq_true rfl)⟩ rfl rfl (Nat.le_of_ble_eq_true rfl) dX5_tells_214 (fun σ28 hr28 => ?_)
                          refine tr_aload_n C (i := 0) dX5_tells_217 rfl rfl ?_
                          refine tr_iload_n C (i := 1) dX5_tells_218 rfl rfl ?_
                          refine tr_iload_n C (i := 2) dX5_tells_219 rfl rfl ?_
                          refine tr_cVI C (av := [.int a1, .int a2]) (st := []) (kX5_firstOther l g cs ad a1 a2 σ28) mwX5_firstOther w1381 rfl rfl ⟨rfl, rfl⟩ ⟨(Nat.le_of_ble_eq_true rfl), (Nat.le_of_ble_eq_true rfl)⟩ rfl rfl (Nat.le_of_ble_eq_true rfl) dX5_tells_220 (fun r29 σ29 hr29 => ?_)
                          refine tr_iconst C (v := -1) dX5_tells_223 (by decide) ?_
                          refine tr_icmp_ne C (tgt := 254) dX5_tells_224 (by decide) (fun q31 => ?_) (fun q31 => ?_)
                          · refine tr_iload C (i := 7) dX5_tells_227 rfl ?_
                            refine tr_iload C (i := 10) dX5_tells_229 rfl ?_
                            refine tr_bipush C (v := 10) dX5_tells_231 (by decide) ?_
                            refine tr_icmp_ge C (tgt := 243) dX5_tells_233 (by decide) (fun q30 => ?_) (fun q30 => ?_)
                            · refine tr_iconst C (v := 0) dX5_tells_243 (by decide) ?_
                              refine tr_ior C dX5_tells_244 ?_
                              refine tr_istore C (i := 7) (lv' := [some (.ref (ad 0)), some (.int a1), some (.int a2), some (.int a3), some (.int y4_203), some (.int y5_203), none, some (.int (y7_203 ||| 0)), some (.int y8_203), some (.int y9_203), some (.int y10_203)]) dX5_tells_245 (by decide) rfl ?_
                              refine tr_iinc C (i := 8) (d := 1) (lv' := [some (.ref (ad 0)), some (.int a1), some (.int a2), some (.int a3), some (.int y4_203), some (.int y5_203), none, some (.int (y7_203 ||| 0)), some (.int (y8_203 + 1)), some (.int y9_203), some (.int y10_203)]) dX5_tells_247 rfl (by decide) (by decide) rfl ?_
                              refine tr_iload C (i := 10) dX5_tells_250 rfl ?_
                              refine tr_istore C (i := 9) (lv' := [some (.ref (ad 0)), some (.int a1), some (.int a2), some (.int a3), some (.int y4_203), some (.int y5_203), none, some (.int (y7_203 ||| 0)), some (.int (y8_203 + 1)), some (.int y10_203), some (.int y10_203)]) dX5_tells_252 (by decide) rfl ?_
                              refine tr_iinc C (i := 10) (d := (-1)) (lv' := [some (.ref (ad 0)), some (.int a1), some (.int a2), some (.int a3), some (.int y4_203), some (.int y5_203), none, some (.int (y7_203 ||| 0)), some (.int (y8_203 + 1)), some (.int y10_203), some (.int (y10_203 + (-1)))]) dX5_tells_254 rfl (by decide) (by decide) rfl ?_
                              refine tr_goto C (tgt := 203) dX5_tells_257 (by decide) ?_
                              exact IH203 (σ29, y4_203, y5_203, y7_203 ||| 0, y8_203 + 1, y10_203, y10_203 + (-1))
                            · refine tr_iconst C (v := 1) dX5_tells_236 (by decide) ?_
                              refine tr_iload C (i := 10) dX5_tells_237 rfl ?_
                              refine tr_ishl C dX5_tells_239 ?_
                              refine tr_goto C (tgt := 244) dX5_tells_240 (by decide) ?_
                              refine tr_ior C dX5_tells_244 ?_
                              refine tr_istore C (i := 7) (lv' := [some (.ref (ad 0)), some (.int a1), some (.int a2), some (.int a3), some (.int y4_203), some (.int y5_203), none, some (.int (y7_203 ||| (1 <<< (y10_203 &&& 31)))), some (.int y8_203), some (.int y9_203), some (.int y10_203)]) dX5_tells_245 (by decide) rfl ?_
                              refine tr_iinc C (i := 8) (d := 1) (lv' := [some (.ref (ad 0)), some (.int a1), some (.int a2), some (.int a3), some (.int y4_203), some (.int y5_203), none, some (.int (y7_203 ||| (1 <<< (y10_203 &&& 31)))), some (.int (y8_203 + 1)), some (.int y9_203), some (.int y10_203)]) dX5_tells_247 rfl (by decide) (by decide) rfl ?_
                              refine tr_iload C (i := 10) dX5_tells_250 rfl ?_
                              refine tr_istore C (i := 9) (lv' := [some (.ref (ad 0)), some (.int a1), some (.int a2), some (.int a3), some (.int y4_203), some (.int y5_203), none, some (.int (y7_203 ||| (1 <<< (y10_203 &&& 31)))), some (.int (y8_203 + 1)), some (.int y10_203), some (.int y10_203)]) dX5_tells_252 (by decide) rfl ?_
                              refine tr_iinc C (i := 10) (d := (-1)) (lv' := [some (.ref (ad 0)), some (.int a1), some (.int a2), some (.int a3), some (.int y4_203), some (.int y5_203), none, some (.int (y7_203 ||| (1 <<< (y10_203 &&& 31)))), some (.int (y8_203 + 1)), some (.int y10_203), some (.int (y10_203 + (-1)))]) dX5_tells_254 rfl (by decide) (by decide) rfl ?_
                              refine tr_goto C (tgt := 203) dX5_tells_257 (by decide) ?_
                              exact IH203 (σ29, y4_203, y5_203, y7_203 ||| (1 <<< (y10_203 &&& 31)), y8_203 + 1, y10_203, y10_203 + (-1))
                          · refine tr_iinc C (i := 10) (d := (-1)) (lv' := [some (.ref (ad 0)), some (.int a1), some (.int a2), some (.int a3), some (.int y4_203), some (.int y5_203), none, some (.int y7_203), some (.int y8_203), some (.int y9_203), some (.int (y10_203 + (-1)))]) dX5_tells_254 rfl (by decide) (by decide) rfl ?_
                            refine tr_goto C (tgt := 203) dX5_tells_257 (by decide) ?_
                            exact IH203 (σ29, y4_203, y5_203, y7_203, y8_203, y9_203, y10_203 + (-1))
                      · refine tr_iload C (i := 4) dX5_tells_165 rfl ?_
                        refine tr_iconst C (v := 5) dX5_tells_167 (by decide) ?_
                        refine tr_icmp_ne C (tgt := 175) dX5_tells_168 (by decide) (fun q27 => ?_) (fun q27 => ?_)
                        · refine tr_iconst C (v := 5) dX5_tells_171 (by decide) ?_
                          refine tr_goto C (tgt := 188) dX5_tells_172 (by decide) ?_
                          refine tr_istore C (i := 6) (lv' := [some (.ref (ad 0)), some (.int a1), some (.int a2), some (.int a3), some (.int y4_147), some (.int z0_147), some (.int 5), none, none, none, none]) dX5_tells_188 (by decide) rfl ?_
                          refine tr_iconst C (v := 0) dX5_tells_190 (by decide) ?_
                          refine tr_istore C (i := 7) (lv' := [some (.ref (ad 0)), some (.int a1), some (.int a2), some (.int a3), some (.int y4_147), some (.int z0_147), some (.int 5), some (.int 0), none, none, none]) dX5_tells_191 (by decide) rfl ?_
                          refine tr_iconst C (v := 0) dX5_tells_193 (by decide) ?_
                          refine tr_istore C (i := 8) (lv' := [some (.ref (ad 0)), some (.int a1), some (.int a2), some (.int a3), some (.int y4_147), some (.int z0_147), some (.int 5), some (.int 0), some (.int 0), none, none]) dX5_tells_194 (by decide) rfl ?_
                          refine tr_iconst C (v := -1) dX5_tells_196 (by decide) ?_
                          refine tr_istore C (i := 9) (lv' := [some (.ref (ad 0)), some (.int a1), some (.int a2), some (.int a3), some (.int y4_147), some (.int z0_147), some (.int 5), some (.int 0), some (.int 0), some (.int (-1)), none]) dX5_tells_197 (by decide) rfl ?_
                          refine tr_iload C (i := 6) dX5_tells_199 rfl ?_
                          refine tr_istore C (i := 10) (lv' := [some (.ref (ad 0)), some (.int a1), some (.int a2), some (.int a3), some (.int y4_147), some (.int z0_147), some (.int 5), some (.int 0), some (.int 0), some (.int (-1)), some (.int 5)]) dX5_tells_201 (by decide) rfl ?_
                          refine tr_mask [true, true, true, true, true, true, false, true, true, true, true] rfl ?_
                          refine tr_loop (b := fX5_tells_L203 a1 a2 a3) (sg := fun v => v.1) (lw := fun v => [some (.ref (ad 0)), some (.int a1), some (.int a2), some (.int a3), some (.int v.2.1), some (.int v.2.2.1), none, some (.int v.2.2.2.1), some (.int v.2.2.2.2.1), some (.int v.2.2.2.2.2.1), some (.int v.2.2.2.2.2.2)]) (sw := fun v => []) (fun ih203 IH203 v => ?_) 1000 (σ147, y4_147, z0_147, 0, 0, -1, 5)
                          obtain ⟨σ203, y4_203, y5_203, y7_203, y8_203, y9_203, y10_203⟩ := v
                          refine tr_st (σ' := σ203) (lv' := [some (.ref (ad 0)), some (.int a1), some (.int a2), some (.int a3), some (.int y4_203), some (.int y5_203), none, some (.int y7_203), some (.int y8_203), some (.int y9_203), some (.int y10_203)]) (st' := []) rfl rfl rfl ?_
                          refine tr_iload C (i := 10) dX5_tells_203 rfl ?_
                          have B260 : ∀ (σ260 : Mem) (y4_260 : Int32) (y5_260 : Int32) (y7_260 : Int32) (y8_260 : Int32) (y9_260 : Int32), Tr p l e { frames := 79, cells := 0, slots := 0, locals := 2922 } s m args below meth c g ad (shM g) A 11 (QI g ad (shM g) A below args s) (fX5_tells_b260 a1 a2 a3 σ260 y4_260 y5_260 y7_260 y8_260 y9_260) σ260 260 [some (.ref (ad 0)), none, some (.int a2), some (.int a3), some (.int y4_260), some (.int y5_260), none, some (.int y7_260), some (.int y8_260), some (.int y9_260), none] [] := by
                            intro σ260 y4_260 y5_260 y7_260 y8_260 y9_260
                            refine tr_aload_n C (i := 0) dX5_tells_260 rfl rfl ?_
                            refine tr_iload C (i := 4) dX5_tells_261 rfl ?_
                            refine tr_iload_n C (i := 2) dX5_tells_263 rfl rfl ?_
                            refine tr_iload C (i := 5) dX5_tells_264 rfl ?_
                            refine tr_cVV C (av := [.int y4_260, .int a2, .int y5_260]) (st := []) (kX5_lays l g cs ad y4_260 a2 y5_260 σ260) mwX5_lays w1208 rfl rfl ⟨rfl, rfl⟩ ⟨(Nat.le_of_ble_eq_true rfl), (Nat.le_of_ble_eq_true rfl)⟩ rfl rfl (Nat.le_of_ble_eq_true rfl) dX5_tells_266 (fun σ8 hr8 => ?_)
                            refine tr_iload_n C (i := 3) dX5_tells_269 rfl rfl ?_
                            refine tr_iconst C (v := 3) dX5_tells_270 (by decide) ?_
                            refine tr_icmp_ne C (tgt := 279) dX5_tells_271 (by decide) (fun q10 => ?_) (fun q10 => ?_)
                            · refine tr_iload C (i := 8) dX5_tells_274 rfl ?_
                              refine tr_goto C (tgt := 291) dX5_tells_276 (by decide) ?_
                              exact tr_iret C hr hlk dX5_tells_291
                            · refine tr_iload_n C (i := 3) dX5_tells_279 rfl rfl ?_
                              refine tr_iconst C (v := 4) dX5_tells_280 (by decide) ?_
                              refine tr_icmp_ne C (tgt := 289) dX5_tells_281 (by decide) (fun q9 => ?_) (fun q9 => ?_)
                              · refine tr_iload C (i := 9) dX5_tells_284 rfl ?_
                                refine tr_goto C (tgt := 291) dX5_tells_286 (by decide) ?_
                                exact tr_iret C hr hlk dX5_tells_291
                              · refine tr_iload C (i := 7) dX5_tells_289 rfl ?_
                                exact tr_iret C hr hlk dX5_tells_291
                          refine tr_if_lt C (tgt := 260) dX5_tells_205 (by decide) (fun q26 => ?_) (fun q26 => ?_)
                          · refine tr_mask [true, false, true, true, true, true, false, true, true, true, false] rfl ?_
                            exact B260 σ203 y4_203 y5_203 y7_203 y8_203 y9_203
                          · refine tr_aload_n C (i := 0) dX5_tells_208 rfl rfl ?_
                            refine tr_iload C (i := 4) dX5_tells_209 rfl ?_
                            refine tr_iload_n C (i := 2) dX5_tells_211 rfl rfl ?_
                            refine tr_iload C (i := 10) dX5_tells_212 rfl ?_
                            refine tr_cVV C (av := [.int y4_203, .int a2, .int y10_203]) (st := []) (kX5_lays l g cs ad y4_203 a2 y10_203 σ203) mwX5_lays w1208 rfl rfl ⟨rfl, rfl⟩ ⟨(Nat.le_of_ble_eq_true rfl), (Nat.le_of_ble_eq_true rfl)⟩ rfl rfl (Nat.le_of_ble_eq_true rfl) dX5_tells_214 (fun σ22 hr22 => ?_)
                            refine tr_aload_n C (i := 0) dX5_tells_217 rfl rfl ?_
                            refine tr_iload_n C (i := 1) dX5_tells_218 rfl rfl ?_
                            refine tr_iload_n C (i := 2) dX5_tells_219 rfl rfl ?_
                            refine tr_cVI C (av := [.int a1, .int a2]) (st := []) (kX5_firstOther l g cs ad a1 a2 σ22) mwX5_firstOther w1381 rfl rfl ⟨rfl, rfl⟩ ⟨(Nat.le_of_ble_eq_true rfl), (Nat.le_of_ble_eq_true rfl)⟩ rfl rfl (Nat.le_of_ble_eq_true rfl) dX5_tells_220 (fun r23 σ23 hr23 => ?_)
                            refine tr_iconst C (v := -1) dX5_tells_223 (by decide) ?_
                            refine tr_icmp_ne C (tgt := 254) dX5_tells_224 (by decide) (fun q25 => ?_) (fun q25 => ?_)
                            · refine tr_iload C (i := 7) dX5_tells_227 rfl ?_
                              refine tr_iload C (i := 10) dX5_tells_229 rfl ?_
                              refine tr_bipush C (v := 10) dX5_tells_231 (by decide) ?_
                              refine tr_icmp_ge C (tgt := 243) dX5_tells_233 (by decide) (fun q24 => ?_) (fun q24 => ?_)
                              · refine tr_iconst C (v := 0) dX5_tells_243 (by decide) ?_
                                refine tr_ior C dX5_tells_244 ?_
                                refine tr_istore C (i := 7) (lv' := [some (.ref (ad 0)), some (.int a1), some (.int a2), some (.int a3), some (.int y4_203), some (.int y5_203), none, some (.int (y7_203 ||| 0)), some (.int y8_203), some (.int y9_203), some (.int y10_203)]) dX5_tells_245 (by decide) rfl ?_
                                refine tr_iinc C (i := 8) (d := 1) (lv' := [some (.ref (ad 0)), some (.int a1), some (.int a2), some (.int a3), some (.int y4_203), some (.int y5_203), none, some (.int (y7_203 ||| 0)), some (.int (y8_203 + 1)), some (.int y9_203), some (.int y10_203)]) dX5_tells_247 rfl (by decide) (by decide) rfl ?_
                                refine tr_iload C (i := 10) dX5_tells_250 rfl ?_
                                refine tr_istore C (i := 9) (lv' := [some (.ref (ad 0)), some (.int a1), some (.int a2), some (.int a3), some (.int y4_203), some (.int y5_203), none, some (.int (y7_203 ||| 0)), some (.int (y8_203 + 1)), some (.int y10_203), some (.int y10_203)]) dX5_tells_252 (by decide) rfl ?_
                                refine tr_iinc C (i := 10) (d := (-1)) (lv' := [some (.ref (ad 0)), some (.int a1), some (.int a2), some (.int a3), some (.int y4_203), some (.int y5_203), none, some (.int (y7_203 ||| 0)), some (.int (y8_203 + 1)), some (.int y10_203), some (.int (y10_203 + (-1)))]) dX5_tells_254 rfl (by decide) (by decide) rfl ?_
                                refine tr_goto C (tgt := 203) dX5_tells_257 (by decide) ?_
                                exact IH203 (σ23, y4_203, y5_203, y7_203 ||| 0, y8_203 + 1, y10_203, y10_203 + (-1))
                              · refine tr_iconst C (v := 1) dX5_tells_236 (by decide) ?_
                                refine tr_iload C (i := 10) dX5_tells_237 rfl ?_
                                refine tr_ishl C dX5_tells_239 ?_
                                refine tr_goto C (tgt := 244) dX5_tells_240 (by decide) ?_
                                refine tr_ior C dX5_tells_244 ?_
                                refine tr_istore C (i := 7) (lv' := [some (.ref (ad 0)), some (.int a1), some (.int a2), some (.int a3), some (.int y4_203), some (.int y5_203), none, some (.int (y7_203 ||| (1 <<< (y10_203 &&& 31)))), some (.int y8_203), some (.int y9_203), some (.int y10_203)]) dX5_tells_245 (by decide) rfl ?_
                                refine tr_iinc C (i := 8) (d := 1) (lv' := [some (.ref (ad 0)), some (.int a1), some (.int a2), some (.int a3), some (.int y4_203), some (.int y5_203), none, some (.int (y7_203 ||| (1 <<< (y10_203 &&& 31)))), some (.int (y8_203 + 1)), some (.int y9_203), some (.int y10_203)]) dX5_tells_247 rfl (by decide) (by decide) rfl ?_
                                refine tr_iload C (i := 10) dX5_tells_250 rfl ?_
                                refine tr_istore C (i := 9) (lv' := [some (.ref (ad 0)), some (.int a1), some (.int a2), some (.int a3), some (.int y4_203), some (.int y5_203), none, some (.int (y7_203 ||| (1 <<< (y10_203 &&& 31)))), some (.int (y8_203 + 1)), some (.int y10_203), some (.int y10_203)]) dX5_tells_252 (by decide) rfl ?_
                                refine tr_iinc C (i := 10) (d := (-1)) (lv' := [some (.ref (ad 0)), some (.int a1), some (.int a2), some (.int a3), some (.int y4_203), some (.int y5_203), none, some (.int (y7_203 ||| (1 <<< (y10_203 &&& 31)))), some (.int (y8_203 + 1)), some (.int y10_203), some (.int (y10_203 + (-1)))]) dX5_tells_254 rfl (by decide) (by decide) rfl ?_
                                refine tr_goto C (tgt := 203) dX5_tells_257 (by decide) ?_
                                exact IH203 (σ23, y4_203, y5_203, y7_203 ||| (1 <<< (y10_203 &&& 31)), y8_203 + 1, y10_203, y10_203 + (-1))
                            · refine tr_iinc C (i := 10) (d := (-1)) (lv' := [some (.ref (ad 0)), some (.int a1), some (.int a2), some (.int a3), some (.int y4_203), some (.int y5_203), none, some (.int y7_203), some (.int y8_203), some (.int y9_203), some (.int (y10_203 + (-1)))]) dX5_tells_254 rfl (by decide) (by decide) rfl ?_
                              refine tr_goto C (tgt := 203) dX5_tells_257 (by decide) ?_
                              exact IH203 (σ23, y4_203, y5_203, y7_203, y8_203, y9_203, y10_203 + (-1))
                        · refine tr_iload C (i := 4) dX5_tells_175 rfl ?_
                          refine tr_iconst C (v := 3) dX5_tells_177 (by decide) ?_
                          refine tr_icmp_ne C (tgt := 186) dX5_tells_178 (by decide) (fun q21 => ?_) (fun q21 => ?_)
                          · refine tr_bipush C (v := 9) dX5_tells_181 (by decide) ?_
                            refine tr_goto C (tgt := 188) dX5_tells_183 (by decide) ?_
                            refine tr_istore C (i := 6) (lv' := [some (.ref (ad 0)), some (.int a1), some (.int a2), some (.int a3), some (.int y4_147), some (.int z0_147), some (.int 9), none, none, none, none]) dX5_tells_188 (by decide) rfl ?_
                            refine tr_iconst C (v := 0) dX5_tells_190 (by decide) ?_
                            refine tr_istore C (i := 7) (lv' := [some (.ref (ad 0)), some (.int a1), some (.int a2), some (.int a3), some (.int y4_147), some (.int z0_147), some (.int 9), some (.int 0), none, none, none]) dX5_tells_191 (by decide) rfl ?_
                            refine tr_iconst C (v := 0) dX5_tells_193 (by decide) ?_
                            refine tr_istore C (i := 8) (lv' := [some (.ref (ad 0)), some (.int a1), some (.int a2), some (.int a3), some (.int y4_147), some (.int z0_147), some (.int 9), some (.int 0), some (.int 0), none, none]) dX5_tells_194 (by decide) rfl ?_
                            refine tr_iconst C (v := -1) dX5_tells_196 (by decide) ?_
                            refine tr_istore C (i := 9) (lv' := [some (.ref (ad 0)), some (.int a1), some (.int a2), some (.int a3), some (.int y4_147), some (.int z0_147), some (.int 9), some (.int 0), some (.int 0), some (.int (-1)), none]) dX5_tells_197 (by decide) rfl ?_
                            refine tr_iload C (i := 6) dX5_tells_199 rfl ?_
                            refine tr_istore C (i := 10) (lv' := [some (.ref (ad 0)), some (.int a1), some (.int a2), some (.int a3), some (.int y4_147), some (.int z0_147), some (.int 9), some (.int 0), some (.int 0), some (.int (-1)), some (.int 9)]) dX5_tells_201 (by decide) rfl ?_
                            refine tr_mask [true, true, true, true, true, true, false, true, true, true, true] rfl ?_
                            refine tr_loop (b := fX5_tells_L203 a1 a2 a3) (sg := fun v => v.1) (lw := fun v => [some (.ref (ad 0)), some (.int a1), some (.int a2), some (.int a3), some (.int v.2.1), some (.int v.2.2.1), none, some (.int v.2.2.2.1), some (.int v.2.2.2.2.1), some (.int v.2.2.2.2.2.1), some (.int v.2.2.2.2.2.2)]) (sw := fun v => []) (fun ih203 IH203 v => ?_) 1000 (σ147, y4_147, z0_147, 0, 0, -1, 9)
                            obtain ⟨σ203, y4_203, y5_203, y7_203, y8_203, y9_203, y10_203⟩ := v
                            refine tr_st (σ' := σ203) (lv' := [some (.ref (ad 0)), some (.int a1), some (.int a2), some (.int a3), some (.int y4_203), some (.int y5_203), none, some (.int y7_203), some (.int y8_203), some (.int y9_203), some (.int y10_203)]) (st' := []) rfl rfl rfl ?_
                            refine tr_iload C (i := 10) dX5_tells_203 rfl ?_
                            have B260 : ∀ (σ260 : Mem) (y4_260 : Int32) (y5_260 : Int32) (y7_260 : Int32) (y8_260 : Int32) (y9_260 : Int32), Tr p l e { frames := 79, cells := 0, slots := 0, locals := 2922 } s m args below meth c g ad (shM g) A 11 (QI g ad (shM g) A below args s) (fX5_tells_b260 a1 a2 a3 σ260 y4_260 y5_260 y7_260 y8_260 y9_260) σ260 260 [some (.ref (ad 0)), none, some (.int a2), some (.int a3), some (.int y4_260), some (.int y5_260), none, some (.int y7_260), some (.int y8_260), some (.int y9_260), none] [] := by
                              intro σ260 y4_260 y5_260 y7_260 y8_260 y9_260
                              refine tr_aload_n C (i := 0) dX5_tells_260 rfl rfl ?_
                              refine tr_iload C (i := 4) dX5_tells_261 rfl ?_
                              refine tr_iload_n C (i := 2) dX5_tells_263 rfl rfl ?_
                              refine tr_iload C (i := 5) dX5_tells_264 rfl ?_
                              refine tr_cVV C (av := [.int y4_260, .int a2, .int y5_260]) (st := []) (kX5_lays l g cs ad y4_260 a2 y5_260 σ260) mwX5_lays w1208 rfl rfl ⟨rfl, rfl⟩ ⟨(Nat.le_of_ble_eq_true rfl), (Nat.le_of_ble_eq_true rfl)⟩ rfl rfl (Nat.le_of_ble_eq_true rfl) dX5_tells_266 (fun σ8 hr8 => ?_)
                              refine tr_iload_n C (i := 3) dX5_tells_269 rfl rfl ?_
                              refine tr_iconst C (v := 3) dX5_tells_270 (by decide) ?_
                              refine tr_icmp_ne C (tgt := 279) dX5_tells_271 (by decide) (fun q10 => ?_) (fun q10 => ?_)
                              · refine tr_iload C (i := 8) dX5_tells_274 rfl ?_
                                refine tr_goto C (tgt := 291) dX5_tells_276 (by decide) ?_
                                exact tr_iret C hr hlk dX5_tells_291
                              · refine tr_iload_n C (i := 3) dX5_tells_279 rfl rfl ?_
                                refine tr_iconst C (v := 4) dX5_tells_280 (by decide) ?_
                                refine tr_icmp_ne C (tgt := 289) dX5_tells_281 (by decide) (fun q9 => ?_) (fun q9 => ?_)
                                · refine tr_iload C (i := 9) dX5_tells_284 rfl ?_
                                  refine tr_goto C (tgt := 291) dX5_tells_286 (by decide) ?_
                                  exact tr_iret C hr hlk dX5_tells_291
                                · refine tr_iload C (i := 7) dX5_tells_289 rfl ?_
                                  exact tr_iret C hr hlk dX5_tells_291
                            refine tr_if_lt C (tgt := 260) dX5_tells_205 (by decide) (fun q20 => ?_) (fun q20 => ?_)
                            · refine tr_mask [true, false, true, true, true, true, false, true, true, true, false] rfl ?_
                              exact B260 σ203 y4_203 y5_203 y7_203 y8_203 y9_203
                            · refine tr_aload_n C (i := 0) dX5_tells_208 rfl rfl ?_
                              refine tr_iload C (i := 4) dX5_tells_209 rfl ?_
                              refine tr_iload_n C (i := 2) dX5_tells_211 rfl rfl ?_
                              refine tr_iload C (i := 10) dX5_tells_212 rfl ?_
                              refine tr_cVV C (av := [.int y4_203, .int a2, .int y10_203]) (st := []) (kX5_lays l g cs ad y4_203 a2 y10_203 σ203) mwX5_lays w1208 rfl rfl ⟨rfl, rfl⟩ ⟨(Nat.le_of_ble_eq_true rfl), (Nat.le_of_ble_eq_true rfl)⟩ rfl rfl (Nat.le_of_ble_eq_true rfl) dX5_tells_214 (fun σ16 hr16 => ?_)
                              refine tr_aload_n C (i := 0) dX5_tells_217 rfl rfl ?_
                              refine tr_iload_n C (i := 1) dX5_tells_218 rfl rfl ?_
                              refine tr_iload_n C (i := 2) dX5_tells_219 rfl rfl ?_
                              refine tr_cVI C (av := [.int a1, .int a2]) (st := []) (kX5_firstOther l g cs ad a1 a2 σ16) mwX5_firstOther w1381 rfl rfl ⟨rfl, rfl⟩ ⟨(Nat.le_of_ble_eq_true rfl), (Nat.le_of_ble_eq_true rfl)⟩ rfl rfl (Nat.le_of_ble_eq_true rfl) dX5_tells_220 (fun r17 σ17 hr17 => ?_)
                              refine tr_iconst C (v := -1) dX5_tells_223 (by decide) ?_
                              refine tr_icmp_ne C (tgt := 254) dX5_tells_224 (by decide) (fun q19 => ?_) (fun q19 => ?_)
                              · refine tr_iload C (i := 7) dX5_tells_227 rfl ?_
                                refine tr_iload C (i := 10) dX5_tells_229 rfl ?_
                                refine tr_bipush C (v := 10) dX5_tells_231 (by decide) ?_
                                refine tr_icmp_ge C (tgt := 243) dX5_tells_233 (by decide) (fun q18 => ?_) (fun q18 => ?_)
                                · refine tr_iconst C (v := 0) dX5_tells_243 (by decide) ?_
                                  refine tr_ior C dX5_tells_244 ?_
                                  refine tr_istore C (i := 7) (lv' := [some (.ref (ad 0)), some (.int a1), some (.int a2), some (.int a3), some (.int y4_203), some (.int y5_203), none, some (.int (y7_203 ||| 0)), some (.int y8_203), some (.int y9_203), some (.int y10_203)]) dX5_tells_245 (by decide) rfl ?_
                                  refine tr_iinc C (i := 8) (d := 1) (lv' := [some (.ref (ad 0)), some (.int a1), some (.int a2), some (.int a3), some (.int y4_203), some (.int y5_203), none, some (.int (y7_203 ||| 0)), some (.int (y8_203 + 1)), some (.int y9_203), some (.int y10_203)]) dX5_tells_247 rfl (by decide) (by decide) rfl ?_
                                  refine tr_iload C (i := 10) dX5_tells_250 rfl ?_
                                  refine tr_istore C (i := 9) (lv' := [some (.ref (ad 0)), some (.int a1), some (.int a2), some (.int a3), some (.int y4_203), some (.int y5_203), none, some (.int (y7_203 ||| 0)), some (.int (y8_203 + 1)), some (.int y10_203), some (.int y10_203)]) dX5_tells_252 (by decide) rfl ?_
                                  refine tr_iinc C (i := 10) (d := (-1)) (lv' := [some (.ref (ad 0)), some (.int a1), some (.int a2), some (.int a3), some (.int y4_203), some (.int y5_203), none, some (.int (y7_203 ||| 0)), some (.int (y8_203 + 1)), some (.int y10_203), some (.int (y10_203 + (-1)))]) dX5_tells_254 rfl (by decide) (by decide) rfl ?_
                                  refine tr_goto C (tgt := 203) dX5_tells_257 (by decide) ?_
                                  exact IH203 (σ17, y4_203, y5_203, y7_203 ||| 0, y8_203 + 1, y10_203, y10_203 + (-1))
                                · refine tr_iconst C (v := 1) dX5_tells_236 (by decide) ?_
                                  refine tr_iload C (i := 10) dX5_tells_237 rfl ?_
                                  refine tr_ishl C dX5_tells_239 ?_
                                  refine tr_goto C (tgt := 244) dX5_tells_240 (by decide) ?_
                                  refine tr_ior C dX5_tells_244 ?_
                                  refine tr_istore C (i := 7) (lv' := [some (.ref (ad 0)), some (.int a1), some (.int a2), some (.int a3), some (.int y4_203), some (.int y5_203), none, some (.int (y7_203 ||| (1 <<< (y10_203 &&& 31)))), some (.int y8_203), some (.int y9_203), some (.int y10_203)]) dX5_tells_245 (by decide) rfl ?_
                                  refine tr_iinc C (i := 8) (d := 1) (lv' := [some (.ref (ad 0)), some (.int a1), some (.int a2), some (.int a3), some (.int y4_203), some (.int y5_203), none, some (.int (y7_203 ||| (1 <<< (y10_203 &&& 31)))), some (.int (y8_203 + 1)), some (.int y9_203), some (.int y10_203)]) dX5_tells_247 rfl (by decide) (by decide) rfl ?_
                                  refine tr_iload C (i := 10) dX5_tells_250 rfl ?_
                                  refine tr_istore C (i := 9) (lv' := [some (.ref (ad 0)), some (.int a1), some (.int a2), some (.int a3), some (.int y4_203), some (.int y5_203), none, some (.int (y7_203 ||| (1 <<< (y10_203 &&& 31)))), some (.int (y8_203 + 1)), some (.int y10_203), some (.int y10_203)]) dX5_tells_252 (by decide) rfl ?_
                                  refine tr_iinc C (i := 10) (d := (-1)) (lv' := [some (.ref (ad 0)), some (.int a1), some (.int a2), some (.int a3), some (.int y4_203), some (.int y5_203), none, some (.int (y7_203 ||| (1 <<< (y10_203 &&& 31)))), some (.int (y8_203 + 1)), some (.int y10_203), some (.int (y10_203 + (-1)))]) dX5_tells_254 rfl (by decide) (by decide) rfl ?_
                                  refine tr_goto C (tgt := 203) dX5_tells_257 (by decide) ?_
                                  exact IH203 (σ17, y4_203, y5_203, y7_203 ||| (1 <<< (y10_203 &&& 31)), y8_203 + 1, y10_203, y10_203 + (-1))
                              · refine tr_iinc C (i := 10) (d := (-1)) (lv' := [some (.ref (ad 0)), some (.int a1), some (.int a2), some (.int a3), some (.int y4_203), some (.int y5_203), none, some (.int y7_203), some (.int y8_203), some (.int y9_203), some (.int (y10_203 + (-1)))]) dX5_tells_254 rfl (by decide) (by decide) rfl ?_
                                refine tr_goto C (tgt := 203) dX5_tells_257 (by decide) ?_
                                exact IH203 (σ17, y4_203, y5_203, y7_203, y8_203, y9_203, y10_203 + (-1))
                          · refine tr_bipush C (v := 99) dX5_tells_186 (by decide) ?_
                            refine tr_istore C (i := 6) (lv' := [some (.ref (ad 0)), some (.int a1), some (.int a2), some (.int a3), some (.int y4_147), some (.int z0_147), some (.int 99), none, none, none, none]) dX5_tells_188 (by decide) rfl ?_
                            refine tr_iconst C (v := 0) dX5_tells_190 (by decide) ?_
                            refine tr_istore C (i := 7) (lv' := [some (.ref (ad 0)), some (.int a1), some (.int a2), some (.int a3), some (.int y4_147), some (.int z0_147), some (.int 99), some (.int 0), none, none, none]) dX5_tells_191 (by decide) rfl ?_
                            refine tr_iconst C (v := 0) dX5_tells_193 (by decide) ?_
                            refine tr_istore C (i := 8) (lv' := [some (.ref (ad 0)), some (.int a1), some (.int a2), some (.int a3), some (.int y4_147), some (.int z0_147), some (.int 99), some (.int 0), some (.int 0), none, none]) dX5_tells_194 (by decide) rfl ?_
                            refine tr_iconst C (v := -1) dX5_tells_196 (by decide) ?_
                            refine tr_istore C (i := 9) (lv' := [some (.ref (ad 0)), some (.int a1), some (.int a2), some (.int a3), some (.int y4_147), some (.int z0_147), some (.int 99), some (.int 0), some (.int 0), some (.int (-1)), none]) dX5_tells_197 (by decide) rfl ?_
                            refine tr_iload C (i := 6) dX5_tells_199 rfl ?_
                            refine tr_istore C (i := 10) (lv' := [some (.ref (ad 0)), some (.int a1), some (.int a2), some (.int a3), some (.int y4_147), some (.int z0_147), some (.int 99), some (.int 0), some (.int 0), some (.int (-1)), some (.int 99)]) dX5_tells_201 (by decide) rfl ?_
                            refine tr_mask [true, true, true, true, true, true, false, true, true, true, true] rfl ?_
                            refine tr_loop (b := fX5_tells_L203 a1 a2 a3) (sg := fun v => v.1) (lw := fun v => [some (.ref (ad 0)), some (.int a1), some (.int a2), some (.int a3), some (.int v.2.1), some (.int v.2.2.1), none, some (.int v.2.2.2.1), some (.int v.2.2.2.2.1), some (.int v.2.2.2.2.2.1), some (.int v.2.2.2.2.2.2)]) (sw := fun v => []) (fun ih203 IH203 v => ?_) 1000 (σ147, y4_147, z0_147, 0, 0, -1, 99)
                            obtain ⟨σ203, y4_203, y5_203, y7_203, y8_203, y9_203, y10_203⟩ := v
                            refine tr_st (σ' := σ203) (lv' := [some (.ref (ad 0)), some (.int a1), some (.int a2), some (.int a3), some (.int y4_203), some (.int y5_203), none, some (.int y7_203), some (.int y8_203), some (.int y9_203), some (.int y10_203)]) (st' := []) rfl rfl rfl ?_
                            refine tr_iload C (i := 10) dX5_tells_203 rfl ?_
                            have B260 : ∀ (σ260 : Mem) (y4_260 : Int32) (y5_260 : Int32) (y7_260 : Int32) (y8_260 : Int32) (y9_260 : Int32), Tr p l e { frames := 79, cells := 0, slots := 0, locals := 2922 } s m args below meth c g ad (shM g) A 11 (QI g ad (shM g) A below args s) (fX5_tells_b260 a1 a2 a3 σ260 y4_260 y5_260 y7_260 y8_260 y9_260) σ260 260 [some (.ref (ad 0)), none, some (.int a2), some (.int a3), some (.int y4_260), some (.int y5_260), none, some (.int y7_260), some (.int y8_260), some (.int y9_260), none] [] := by
                              intro σ260 y4_260 y5_260 y7_260 y8_260 y9_260
                              refine tr_aload_n C (i := 0) dX5_tells_260 rfl rfl ?_
                              refine tr_iload C (i := 4) dX5_tells_261 rfl ?_
                              refine tr_iload_n C (i := 2) dX5_tells_263 rfl rfl ?_
                              refine tr_iload C (i := 5) dX5_tells_264 rfl ?_
                              refine tr_cVV C (av := [.int y4_260, .int a2, .int y5_260]) (st := []) (kX5_lays l g cs ad y4_260 a2 y5_260 σ260) mwX5_lays w1208 rfl rfl ⟨rfl, rfl⟩ ⟨(Nat.le_of_ble_eq_true rfl), (Nat.le_of_ble_eq_true rfl)⟩ rfl rfl (Nat.le_of_ble_eq_true rfl) dX5_tells_266 (fun σ8 hr8 => ?_)
                              refine tr_iload_n C (i := 3) dX5_tells_269 rfl rfl ?_
                              refine tr_iconst C (v := 3) dX5_tells_270 (by decide) ?_
                              refine tr_icmp_ne C (tgt := 279) dX5_tells_271 (by decide) (fun q10 => ?_) (fun q10 => ?_)
                              · refine tr_iload C (i := 8) dX5_tells_274 rfl ?_
                                refine tr_goto C (tgt := 291) dX5_tells_276 (by decide) ?_
                                exact tr_iret C hr hlk dX5_tells_291
                              · refine tr_iload_n C (i := 3) dX5_tells_279 rfl rfl ?_
                                refine tr_iconst C (v := 4) dX5_tells_280 (by decide) ?_
                                refine tr_icmp_ne C (tgt := 289) dX5_tells_281 (by decide) (fun q9 => ?_) (fun q9 => ?_)
                                · refine tr_iload C (i := 9) dX5_tells_284 rfl ?_
                                  refine tr_goto C (tgt := 291) dX5_tells_286 (by decide) ?_
                                  exact tr_iret C hr hlk dX5_tells_291
                                · refine tr_iload C (i := 7) dX5_tells_289 rfl ?_
                                  exact tr_iret C hr hlk dX5_tells_291
                            refine tr_if_lt C (tgt := 260) dX5_tells_205 (by decide) (fun q15 => ?_) (fun q15 => ?_)
                            · refine tr_mask [true, false, true, true, true, true, false, true, true, true, false] rfl ?_
                              exact B260 σ203 y4_203 y5_203 y7_203 y8_203 y9_203
                            · refine tr_aload_n C (i := 0) dX5_tells_208 rfl rfl ?_
                              refine tr_iload C (i := 4) dX5_tells_209 rfl ?_
                              refine tr_iload_n C (i := 2) dX5_tells_211 rfl rfl ?_
                              refine tr_iload C (i := 10) dX5_tells_212 rfl ?_
                              refine tr_cVV C (av := [.int y4_203, .int a2, .int y10_203]) (st := []) (kX5_lays l g cs ad y4_203 a2 y10_203 σ203) mwX5_lays w1208 rfl rfl ⟨rfl, rfl⟩ ⟨(Nat.le_of_ble_eq_true rfl), (Nat.le_of_ble_eq_true rfl)⟩ rfl rfl (Nat.le_of_ble_eq_true rfl) dX5_tells_214 (fun σ11 hr11 => ?_)
                              refine tr_aload_n C (i := 0) dX5_tells_217 rfl rfl ?_
                              refine tr_iload_n C (i := 1) dX5_tells_218 rfl rfl ?_
                              refine tr_iload_n C (i := 2) dX5_tells_219 rfl rfl ?_
                              refine tr_cVI C (av := [.int a1, .int a2]) (st := []) (kX5_firstOther l g cs ad a1 a2 σ11) mwX5_firstOther w1381 rfl rfl ⟨rfl, rfl⟩ ⟨(Nat.le_of_ble_eq_true rfl), (Nat.le_of_ble_eq_true rfl)⟩ rfl rfl (Nat.le_of_ble_eq_true rfl) dX5_tells_220 (fun r12 σ12 hr12 => ?_)
                              refine tr_iconst C (v := -1) dX5_tells_223 (by decide) ?_
                              refine tr_icmp_ne C (tgt := 254) dX5_tells_224 (by decide) (fun q14 => ?_) (fun q14 => ?_)
                              · refine tr_iload C (i := 7) dX5_tells_227 rfl ?_
                                refine tr_iload C (i := 10) dX5_tells_229 rfl ?_
                                refine tr_bipush C (v := 10) dX5_tells_231 (by decide) ?_
                                refine tr_icmp_ge C (tgt := 243) dX5_tells_233 (by decide) (fun q13 => ?_) (fun q13 => ?_)
                                · refine tr_iconst C (v := 0) dX5_tells_243 (by decide) ?_
                                  refine tr_ior C dX5_tells_244 ?_
                                  refine tr_istore C (i := 7) (lv' := [some (.ref (ad 0)), some (.int a1), some (.int a2), some (.int a3), some (.int y4_203), some (.int y5_203), none, some (.int (y7_203 ||| 0)), some (.int y8_203), some (.int y9_203), some (.int y10_203)]) dX5_tells_245 (by decide) rfl ?_
                                  refine tr_iinc C (i := 8) (d := 1) (lv' := [some (.ref (ad 0)), some (.int a1), some (.int a2), some (.int a3), some (.int y4_203), some (.int y5_203), none, some (.int (y7_203 ||| 0)), some (.int (y8_203 + 1)), some (.int y9_203), some (.int y10_203)]) dX5_tells_247 rfl (by decide) (by decide) rfl ?_
                                  refine tr_iload C (i := 10) dX5_tells_250 rfl ?_
                                  refine tr_istore C (i := 9) (lv' := [some (.ref (ad 0)), some (.int a1), some (.int a2), some (.int a3), some (.int y4_203), some (.int y5_203), none, some (.int (y7_203 ||| 0)), some (.int (y8_203 + 1)), some (.int y10_203), some (.int y10_203)]) dX5_tells_252 (by decide) rfl ?_
                                  refine tr_iinc C (i := 10) (d := (-1)) (lv' := [some (.ref (ad 0)), some (.int a1), some (.int a2), some (.int a3), some (.int y4_203), some (.int y5_203), none, some (.int (y7_203 ||| 0)), some (.int (y8_203 + 1)), some (.int y10_203), some (.int (y10_203 + (-1)))]) dX5_tells_254 rfl (by decide) (by decide) rfl ?_
                                  refine tr_goto C (tgt := 203) dX5_tells_257 (by decide) ?_
                                  exact IH203 (σ12, y4_203, y5_203, y7_203 ||| 0, y8_203 + 1, y10_203, y10_203 + (-1))
                                · refine tr_iconst C (v := 1) dX5_tells_236 (by decide) ?_
                                  refine tr_iload C (i := 10) dX5_tells_237 rfl ?_
                                  refine tr_ishl C dX5_tells_239 ?_
                                  refine tr_goto C (tgt := 244) dX5_tells_240 (by decide) ?_
                                  refine tr_ior C dX5_tells_244 ?_
                                  refine tr_istore C (i := 7) (lv' := [some (.ref (ad 0)), some (.int a1), some (.int a2), some (.int a3), some (.int y4_203), some (.int y5_203), none, some (.int (y7_203 ||| (1 <<< (y10_203 &&& 31)))), some (.int y8_203), some (.int y9_203), some (.int y10_203)]) dX5_tells_245 (by decide) rfl ?_
                                  refine tr_iinc C (i := 8) (d := 1) (lv' := [some (.ref (ad 0)), some (.int a1), some (.int a2), some (.int a3), some (.int y4_203), some (.int y5_203), none, some (.int (y7_203 ||| (1 <<< (y10_203 &&& 31)))), some (.int (y8_203 + 1)), some (.int y9_203), some (.int y10_203)]) dX5_tells_247 rfl (by decide) (by decide) rfl ?_
                                  refine tr_iload C (i := 10) dX5_tells_250 rfl ?_
                                  refine tr_istore C (i := 9) (lv' := [some (.ref (ad 0)), some (.int a1), some (.int a2), some (.int a3), some (.int y4_203), some (.int y5_203), none, some (.int (y7_203 ||| (1 <<< (y10_203 &&& 31)))), some (.int (y8_203 + 1)), some (.int y10_203), some (.int y10_203)]) dX5_tells_252 (by decide) rfl ?_
                                  refine tr_iinc C (i := 10) (d := (-1)) (lv' := [some (.ref (ad 0)), some (.int a1), some (.int a2), some (.int a3), some (.int y4_203), some (.int y5_203), none, some (.int (y7_203 ||| (1 <<< (y10_203 &&& 31)))), some (.int (y8_203 + 1)), some (.int y10_203), some (.int (y10_203 + (-1)))]) dX5_tells_254 rfl (by decide) (by decide) rfl ?_
                                  refine tr_goto C (tgt := 203) dX5_tells_257 (by decide) ?_
                                  exact IH203 (σ12, y4_203, y5_203, y7_203 ||| (1 <<< (y10_203 &&& 31)), y8_203 + 1, y10_203, y10_203 + (-1))
                              · refine tr_iinc C (i := 10) (d := (-1)) (lv' := [some (.ref (ad 0)), some (.int a1), some (.int a2), some (.int a3), some (.int y4_203), some (.int y5_203), none, some (.int y7_203), some (.int y8_203), some (.int y9_203), some (.int (y10_203 + (-1)))]) dX5_tells_254 rfl (by decide) (by decide) rfl ?_
                                refine tr_goto C (tgt := 203) dX5_tells_257 (by decide) ?_
                                exact IH203 (σ12, y4_203, y5_203, y7_203, y8_203, y9_203, y10_203 + (-1))
                    refine tr_icmp_ne C (tgt := 140) dX5_tells_130 (by decide) (fun q34 => ?_) (fun q34 => ?_)
                    · refine tr_aload_n C (i := 0) dX5_tells_133 rfl rfl ?_
                      refine tr_getI C (k := 4) (ci := 5) rfl rfl rfl inT5 rfl (by decide) w952 dX5_tells_134 ?_
                      refine tr_goto C (tgt := 147) dX5_tells_137 (by decide) ?_
                      exact B147 σ124 z0_124 (σ124.1 0 4)
                    · refine tr_aload_n C (i := 0) dX5_tells_140 rfl rfl ?_
                      refine tr_iload_n C (i := 2) dX5_tells_141 rfl rfl ?_
                      refine tr_iload C (i := 4) dX5_tells_142 rfl ?_
                      refine tr_cVI C (av := [.int a2, .int z0_124]) (st := []) (kX5_told l g cs ad a2 z0_124 σ124) mwX5_told w1103 rfl rfl ⟨rfl, rfl⟩ ⟨(Nat.le_of_ble_eq_true rfl), (Nat.le_of_ble_eq_true rfl)⟩ rfl rfl (Nat.le_of_ble_eq_true rfl) dX5_tells_144 (fun r7 σ7 hr7 => ?_)
                      exact B147 σ7 z0_124 r7
                  refine tr_icmp_ne C (tgt := 104) dX5_tells_97 (by decide) (fun q37 => ?_) (fun q37 => ?_)
                  · refine tr_iconst C (v := 5) dX5_tells_100 (by decide) ?_
                    refine tr_goto C (tgt := 124) dX5_tells_101 (by decide) ?_
                    exact B124 σ 5
                  · refine tr_iload_n C (i := 3) dX5_tells_104 rfl rfl ?_
                    refine tr_iconst C (v := 2) dX5_tells_105 (by decide) ?_
                    refine tr_icmp_ne C (tgt := 113) dX5_tells_106 (by decide) (fun q36 => ?_) (fun q36 => ?_)
                    · refine tr_iconst C (v := 3) dX5_tells_109 (by decide) ?_
                      refine tr_goto C (tgt := 124) dX5_tells_110 (by decide) ?_
                      exact B124 σ 3
                    · refine tr_iload_n C (i := 3) dX5_tells_113 rfl rfl ?_
                      refine tr_iconst C (v := 5) dX5_tells_114 (by decide) ?_
                      refine tr_icmp_ne C (tgt := 123) dX5_tells_115 (by decide) (fun q35 => ?_) (fun q35 => ?_)
                      · refine tr_bipush C (v := 6) dX5_tells_118 (by decide) ?_
                        refine tr_goto C (tgt := 124) dX5_tells_120 (by decide) ?_
                        exact B124 σ 6
                      · refine tr_iconst C (v := 0) dX5_tells_123 (by decide) ?_
                        exact B124 σ 0
            · refine tr_bipush C (v := -2) dX5_tells_63 (by decide) ?_
              exact tr_iret C hr hlk dX5_tells_65
def fX5_places_b106 (a1 : Int32) (a2 : Int32) (σ106 : Mem) (y3_106 : Int32) (y4_106 : Int64) : Option (Int64 × Mem) :=
  gd (inB a2 8) (stp (wr σ106 7 a2 y3_106) fun σw3 => (
    some (y4_106, σw3)
  ))
def fX5_places_L62 (a1 : Int32) (a2 : Int32) (ih62 : Mem × Int32 × Int64 × Int32 → Option (Int64 × Mem)) : Mem × Int32 × Int64 × Int32 → Option (Int64 × Mem) := fun v => match v with
  | (σ62, y3_62, y4_62, y6_62) =>
    if 36 ≤ y6_62 then (
      fX5_places_b106 a1 a2 σ62 y3_62 y4_62
    ) else (
      gd (inB a2 8) (stp (wr σ62 7 a2 y6_62) fun σw5 => (
        bnd (fX5_firstOther a1 a2 σw5) fun r6 σ6 => (
          if r6 = (-1) then (
            ih62 (σ6, y3_62, y4_62 ||| (1 <<< (y6_62.toInt64 &&& 63)), y6_62 + 1)
          ) else (
            ih62 (σ6, y3_62, y4_62 ||| 0, y6_62 + 1)
          )
        )
      ))
    )
def fX5_places (a1 : Int32) (a2 : Int32) (σ : Mem) : Option (Int64 × Mem) :=
  bn1 (fX5_isSheet a1 σ) fun r1 => (
    if r1 = 0 then (
      some (-4611686018427387904, σ)
    ) else (
      bn1 (fX5_isOne a2 σ) fun r2 => (
        if r2 = 0 then (
          some (-4611686018427387904, σ)
        ) else (
          gd (inB a2 8) (
            if (rd σ 7 a2) = (-1) then (
              some (-4611686018427387904, σ)
            ) else (
              gd (inB a1 4) (
                if (rd σ 13 a1) = 0 then (
                  some (-4611686018427387904, σ)
                ) else (
                  gd (inB a1 4) (
                    if (rd σ 15 a1) ≤ 10 then (
                      gd (inB a2 8) (
                        loopN (fX5_places_L62 a1 a2) 1000 (σ, rd σ 7 a2, 0, 0)
                      )
                    ) else (
                      some (-4611686018427387904, σ)
                    )
                  )
                )
              )
            )
          )
        )
      )
    )
  )
set_option maxHeartbeats 4000000 in
set_option maxRecDepth 100000 in
theorem kX5_places (l : Launch) (g : GG) (cs : CS) (ad : Nat → Nat) (a1 : Int32) (a2 : Int32) (σ : Mem) : CtL l g cs ad (shM g) mX5_places (.code mX5_places cX5_places 7 (some .long)) { frames := 78, cells := 0, slots := 0, locals := 2899 } [.ref (ad 0), .int a1, .int a2] σ (fX5_places a1 a2 σ) := by
  refine ctL_intro (own := "KinInTheHeapModel") (by decide +kernel) rfl [some (.ref (ad 0)), some (.int a1), some (.int a2), none, none, none, none] (Nat.le_of_ble_eq_true rfl) rfl ?_
  intro p e s m args below meth c A C hr hlk
  refine tr_iload_n C (i := 1) dX5_places_0 rfl rfl ?_
  refine tr_cSIP C (av := [.int a1]) (st := []) (kX5_isSheet l g cs ad a1 σ) mwX5_isSheet w1271 ⟨rfl, rfl⟩ ⟨(Nat.le_of_ble_eq_true rfl), (Nat.le_of_ble_eq_true rfl)⟩ rfl rfl (Nat.le_of_ble_eq_true rfl) dX5_places_1 (fun r1 hr1 => ?_)
  refine tr_if_eq C (tgt := 45) dX5_places_4 (by decide) (fun q18 => ?_) (fun q18 => ?_)
  · refine tr_ldc2 C (v := -4611686018427387904) w1323 dX5_places_45 ?_
    exact tr_lret C hr hlk dX5_places_48
  · refine tr_aload_n C (i := 0) dX5_places_7 rfl rfl ?_
    refine tr_iload_n C (i := 2) dX5_places_8 rfl rfl ?_
    refine tr_cVIP C (av := [.int a2]) (st := []) (kX5_isOne l g cs ad a2 σ) mwX5_isOne w1095 rfl rfl ⟨rfl, rfl⟩ ⟨(Nat.le_of_ble_eq_true rfl), (Nat.le_of_ble_eq_true rfl)⟩ rfl rfl (Nat.le_of_ble_eq_true rfl) dX5_places_9 (fun r2 hr2 => ?_)
    refine tr_if_eq C (tgt := 45) dX5_places_12 (by decide) (fun q17 => ?_) (fun q17 => ?_)
    · refine tr_ldc2 C (v := -4611686018427387904) w1323 dX5_places_45 ?_
      exact tr_lret C hr hlk dX5_places_48
    · refine tr_aload_n C (i := 0) dX5_places_15 rfl rfl ?_
      refine tr_getR C (k := 12) (ci := 5) rfl rfl rfl inT5 rfl (by decide) w960 dX5_places_16 ?_
      refine tr_iload_n C (i := 2) dX5_places_19 rfl rfl ?_
      refine tr_iald C (n := 8) rfl dX5_places_20 (fun h16 => ?_)
      refine tr_iconst C (v := -1) dX5_places_21 (by decide) ?_
      refine tr_icmp_eq C (tgt := 45) dX5_places_22 (by decide) (fun q15 => ?_) (fun q15 => ?_)
      · refine tr_ldc2 C (v := -4611686018427387904) w1323 dX5_places_45 ?_
        exact tr_lret C hr hlk dX5_places_48
      · refine tr_aload_n C (i := 0) dX5_places_25 rfl rfl ?_
        refine tr_getR C (k := 39) (ci := 5) rfl rfl rfl inT5 rfl (by decide) w987 dX5_places_26 ?_
        refine tr_iload_n C (i := 1) dX5_places_29 rfl rfl ?_
        refine tr_zald C (n := 4) rfl dX5_places_30 (fun h14 => ?_)
        refine tr_if_eq C (tgt := 45) dX5_places_31 (by decide) (fun q13 => ?_) (fun q13 => ?_)
        · refine tr_ldc2 C (v := -4611686018427387904) w1323 dX5_places_45 ?_
          exact tr_lret C hr hlk dX5_places_48
        · refine tr_aload_n C (i := 0) dX5_places_34 rfl rfl ?_
          refine tr_getR C (k := 41) (ci := 5) rfl rfl rfl inT5 rfl (by decide) w989 dX5_places_35 ?_
          refine tr_iload_n C (i := 1) dX5_places_38 rfl rfl ?_
          refine tr_iald C (n := 4) rfl dX5_places_39 (fun h12 => ?_)
          refine tr_bipush C (v := 10) dX5_places_40 (by decide) ?_
          refine tr_icmp_le C (tgt := 49) dX5_places_42 (by decide) (fun q11 => ?_) (fun q11 => ?_)
          · refine tr_aload_n C (i := 0) dX5_places_49 rfl rfl ?_
            refine tr_getR C (k := 12) (ci := 5) rfl rfl rfl inT5 rfl (by decide) w960 dX5_places_50 ?_
            refine tr_iload_n C (i := 2) dX5_places_53 rfl rfl ?_
            refine tr_iald C (n := 8) rfl dX5_places_54 (fun h10 => ?_)
            refine tr_istore_n C (i := 3) (lv' := [some (.ref (ad 0)), some (.int a1), some (.int a2), some (.int (rd σ 7 a2)), none, none, none]) dX5_places_55 rfl (by decide) rfl ?_
            refine tr_lconst C (v := 0) dX5_places_56 (by decide) ?_
            refine tr_lstore C (i := 4) (lv' := [some (.ref (ad 0)), some (.int a1), some (.int a2), some (.int (rd σ 7 a2)), some (.long 0), none, none]) dX5_places_57 (by decide) rfl ?_
            refine tr_iconst C (v := 0) dX5_places_59 (by decide) ?_
            refine tr_istore C (i := 6) (lv' := [some (.ref (ad 0)), some (.int a1), some (.int a2), some (.int (rd σ 7 a2)), some (.long 0), none, some (.int 0)]) dX5_places_60 (by decide) rfl ?_
            refine tr_loop (b := fX5_places_L62 a1 a2) (sg := fun v => v.1) (lw := fun v => [some (.ref (ad 0)), some (.int a1), some (.int a2), some (.int v.2.1), some (.long v.2.2.1), none, some (.int v.2.2.2)]) (sw := fun v => []) (fun ih62 IH62 v => ?_) 1000 (σ, rd σ 7 a2, 0, 0)
            obtain ⟨σ62, y3_62, y4_62, y6_62⟩ := v
            refine tr_st (σ' := σ62) (lv' := [some (.ref (ad 0)), some (.int a1), some (.int a2), some (.int y3_62), some (.long y4_62), none, some (.int y6_62)]) (st' := []) rfl rfl rfl ?_
            refine tr_iload C (i := 6) dX5_places_62 rfl ?_
            refine tr_bipush C (v := 36) dX5_places_64 (by decide) ?_
            have B106 : ∀ (σ106 : Mem) (y3_106 : Int32) (y4_106 : Int64), Tr p l e { frames := 78, cells := 0, slots := 0, locals := 2899 } s m args below meth c g ad (shM g) A 7 (QL g ad (shM g) A below args s) (fX5_places_b106 a1 a2 σ106 y3_106 y4_106) σ106 106 [some (.ref (ad 0)), none, some (.int a2), some (.int y3_106), some (.long y4_106), none, none] [] := by
              intro σ106 y3_106 y4_106
              refine tr_aload_n C (i := 0) dX5_places_106 rfl rfl ?_
              refine tr_getR C (k := 12) (ci := 5) rfl rfl rfl inT5 rfl (by decide) w960 dX5_places_107 ?_
              refine tr_iload_n C (i := 2) dX5_places_110 rfl rfl ?_
              refine tr_iload_n C (i := 3) dX5_places_111 rfl rfl ?_
              refine tr_iast C (n := 8) (σ' := wr σ106 7 a2 y3_106) rfl dX5_places_112 rfl (fun h4 => ?_)
              refine tr_stp (fun σw3 eσw3 => ?_)
              refine tr_lload C (i := 4) dX5_places_113 rfl ?_
              exact tr_lret C hr hlk dX5_places_115
            refine tr_icmp_ge C (tgt := 106) dX5_places_66 (by decide) (fun q9 => ?_) (fun q9 => ?_)
            · refine tr_mask [true, false, true, true, true, false, false] rfl ?_
              exact B106 σ62 y3_62 y4_62
            · refine tr_aload_n C (i := 0) dX5_places_69 rfl rfl ?_
              refine tr_getR C (k := 12) (ci := 5) rfl rfl rfl inT5 rfl (by decide) w960 dX5_places_70 ?_
              refine tr_iload_n C (i := 2) dX5_places_73 rfl rfl ?_
              refine tr_iload C (i := 6) dX5_places_74 rfl ?_
              refine tr_iast C (n := 8) (σ' := wr σ62 7 a2 y6_62) rfl dX5_places_76 rfl (fun h8 => ?_)
              refine tr_stp (fun σw5 eσw5 => ?_)
              refine tr_lload C (i := 4) dX5_places_77 rfl ?_
              refine tr_aload_n C (i := 0) dX5_places_79 rfl rfl ?_
              refine tr_iload_n C (i := 1) dX5_places_80 rfl rfl ?_
              refine tr_iload_n C (i := 2) dX5_places_81 rfl rfl ?_
              refine tr_cVI C (av := [.int a1, .int a2]) (st := [.long y4_62]) (kX5_firstOther l g cs ad a1 a2 σw5) mwX5_firstOther w1381 rfl rfl ⟨rfl, rfl⟩ ⟨(Nat.le_of_ble_eq_true rfl), (Nat.le_of_ble_eq_true rfl)⟩ rfl rfl (Nat.le_of_ble_eq_true rfl) dX5_places_82 (fun r6 σ6 hr6 => ?_)
              refine tr_iconst C (v := -1) dX5_places_85 (by decide) ?_
              refine tr_icmp_ne C (tgt := 96) dX5_places_86 (by decide) (fun q7 => ?_) (fun q7 => ?_)
              · refine tr_lconst C (v := 1) dX5_places_89 (by decide) ?_
                refine tr_iload C (i := 6) dX5_places_90 rfl ?_
                refine tr_lshl C dX5_places_92 ?_
                refine tr_goto C (tgt := 97) dX5_places_93 (by decide) ?_
                refine tr_lor C dX5_places_97 ?_
                refine tr_lstore C (i := 4) (lv' := [some (.ref (ad 0)), some (.int a1), some (.int a2), some (.int y3_62), some (.long (y4_62 ||| (1 <<< (y6_62.toInt64 &&& 63)))), none, some (.int y6_62)]) dX5_places_98 (by decide) rfl ?_
                refine tr_iinc C (i := 6) (d := 1) (lv' := [some (.ref (ad 0)), some (.int a1), some (.int a2), some (.int y3_62), some (.long (y4_62 ||| (1 <<< (y6_62.toInt64 &&& 63)))), none, some (.int (y6_62 + 1))]) dX5_places_100 rfl (by decide) (by decide) rfl ?_
                refine tr_goto C (tgt := 62) dX5_places_103 (by decide) ?_
                exact IH62 (σ6, y3_62, y4_62 ||| (1 <<< (y6_62.toInt64 &&& 63)), y6_62 + 1)
              · refine tr_lconst C (v := 0) dX5_places_96 (by decide) ?_
                refine tr_lor C dX5_places_97 ?_
                refine tr_lstore C (i := 4) (lv' := [some (.ref (ad 0)), some (.int a1), some (.int a2), some (.int y3_62), some (.long (y4_62 ||| 0)), none, some (.int y6_62)]) dX5_places_98 (by decide) rfl ?_
                refine tr_iinc C (i := 6) (d := 1) (lv' := [some (.ref (ad 0)), some (.int a1), some (.int a2), some (.int y3_62), some (.long (y4_62 ||| 0)), none, some (.int (y6_62 + 1))]) dX5_places_100 rfl (by decide) (by decide) rfl ?_
                refine tr_goto C (tgt := 62) dX5_places_103 (by decide) ?_
                exact IH62 (σ6, y3_62, y4_62 ||| 0, y6_62 + 1)
          · refine tr_ldc2 C (v := -4611686018427387904) w1323 dX5_places_45 ?_
            exact tr_lret C hr hlk dX5_places_48
def fX5_sheet_L77 (a1 : Int32) (a2 : Int32) (a3 : Int32) (ih77 : Mem × Int32 → Option (Int32 × Mem)) : Mem × Int32 → Option (Int32 × Mem) := fun v => match v with
  | (σ77, y4_77) =>
    if a3 ≤ y4_77 then (
      some (1, σ77)
    ) else (
      if a2 < 0 then (
        some (1, σ77)
      ) else (
        gd (inB ((40 * a1) + y4_77) 160) (stp (wr σ77 16 ((40 * a1) + y4_77) 0) fun σw6 => (
          ih77 (σw6, y4_77 + 1)
        ))
      )
    )
def fX5_sheet_b59 (a1 : Int32) (a2 : Int32) (a3 : Int32) (σ59 : Mem) (z0_59 : Int32) (z1_59 : Int32) : Option (Int32 × Mem) :=
  gd (inB z1_59 4) (stp (wr σ59 13 z1_59 (vp_nar .boolean z0_59)) fun σw3 => (
    gd (inB a1 4) (stp (wr σw3 14 a1 a2) fun σw4 => (
      gd (inB a1 4) (stp (wr σw4 15 a1 a3) fun σw5 => (
        loopN (fX5_sheet_L77 a1 a2 a3) 1000 (σw5, 0)
      ))
    ))
  ))
def fX5_sheet_b45 (a1 : Int32) (a2 : Int32) (a3 : Int32) (σ45 : Mem) : Option (Int32 × Mem) :=
  if a2 < 0 then (
    fX5_sheet_b59 a1 a2 a3 σ45 0 a1
  ) else (
    fX5_sheet_b59 a1 a2 a3 σ45 1 a1
  )
def fX5_sheet_b34 (a1 : Int32) (a2 : Int32) (a3 : Int32) (σ34 : Mem) : Option (Int32 × Mem) :=
  if a2 < 0 then (
    fX5_sheet_b45 a1 a2 a3 σ34
  ) else (
    if 0 ≤ a3 then (
      fX5_sheet_b45 a1 a2 a3 σ34
    ) else (
      some (-14, σ34)
    )
  )
def fX5_sheet (a1 : Int32) (a2 : Int32) (a3 : Int32) (σ : Mem) : Option (Int32 × Mem) :=
  bn1 (fX5_isSheet a1 σ) fun r1 => (
    if r1 = 0 then (
      some (-2, σ)
    ) else (
      bn1 (fX5_in a2.toInt64 (-1) 2 σ) fun r2 => (
        if r2 = 0 then (
          some (-2, σ)
        ) else (
          if a2 < 0 then (
            fX5_sheet_b34 a1 a2 a3 σ
          ) else (
            if a3 ≤ 40 then (
              fX5_sheet_b34 a1 a2 a3 σ
            ) else (
              some (-2, σ)
            )
          )
        )
      )
    )
  )
set_option maxHeartbeats 4000000 in
set_option maxRecDepth 100000 in
theorem kX5_sheet (l : Launch) (g : GG) (cs : CS) (ad : Nat → Nat) (a1 : Int32) (a2 : Int32) (a3 : Int32) (σ : Mem) : CtI l g cs ad (shM g) mX5_sheet (.code mX5_sheet cX5_sheet 5 (some .int)) { frames := 2, cells := 0, slots := 0, locals := 45 } [.ref (ad 0), .int a1, .int a2, .int a3] σ (fX5_sheet a1 a2 a3 σ) := by
  refine ctI_intro (own := "KinInTheHeapModel") (by decide +kernel) rfl [some (.ref (ad 0)), some (.int a1), some (.int a2), some (.int a3), none] (Nat.le_of_ble_eq_true rfl) rfl ?_
  intro p e s m args below meth c A C hr hlk
  refine tr_iload_n C (i := 1) dX5_sheet_0 rfl rfl ?_
  refine tr_cSIP C (av := [.int a1]) (st := []) (kX5_isSheet l g cs ad a1 σ) mwX5_isSheet w1271 ⟨rfl, rfl⟩ ⟨(Nat.le_of_ble_eq_true rfl), (Nat.le_of_ble_eq_true rfl)⟩ rfl rfl (Nat.le_of_ble_eq_true rfl) dX5_sheet_1 (fun r1 hr1 => ?_)
  refine tr_if_eq C (tgt := 31) dX5_sheet_4 (by decide) (fun q19 => ?_) (fun q19 => ?_)
  · refine tr_bipush C (v := -2) dX5_sheet_31 (by decide) ?_
    exact tr_iret C hr hlk dX5_sheet_33
  · refine tr_iload_n C (i := 2) dX5_sheet_7 rfl rfl ?_
    refine tr_i2l C dX5_sheet_8 ?_
    refine tr_ldc2 C (v := -1) w1099 dX5_sheet_9 ?_
    refine tr_ldc2 C (v := 2) w1401 dX5_sheet_12 ?_
    refine tr_cSIP C (av := [.long a2.toInt64, .long (-1), .long 2]) (st := []) (kX5_in l g cs ad a2.toInt64 (-1) 2 σ) mwX5_in w1084 ⟨rfl, rfl⟩ ⟨(Nat.le_of_ble_eq_true rfl), (Nat.le_of_ble_eq_true rfl)⟩ rfl rfl (Nat.le_of_ble_eq_true rfl) dX5_sheet_15 (fun r2 hr2 => ?_)
    refine tr_if_eq C (tgt := 31) dX5_sheet_18 (by decide) (fun q18 => ?_) (fun q18 => ?_)
    · refine tr_bipush C (v := -2) dX5_sheet_31 (by decide) ?_
      exact tr_iret C hr hlk dX5_sheet_33
    · refine tr_iload_n C (i := 2) dX5_sheet_21 rfl rfl ?_
      have B34 : ∀ (σ34 : Mem), Tr p l e { frames := 2, cells := 0, slots := 0, locals := 45 } s m args below meth c g ad (shM g) A 5 (QI g ad (shM g) A below args s) (fX5_sheet_b34 a1 a2 a3 σ34) σ34 34 [some (.ref (ad 0)), some (.int a1), some (.int a2), some (.int a3), none] [] := by
        intro σ34
        refine tr_iload_n C (i := 2) dX5_sheet_34 rfl rfl ?_
        have B45 : ∀ (σ45 : Mem), Tr p l e { frames := 2, cells := 0, slots := 0, locals := 45 } s m args below meth c g ad (shM g) A 5 (QI g ad (shM g) A below args s) (fX5_sheet_b45 a1 a2 a3 σ45) σ45 45 [some (.ref (ad 0)), some (.int a1), some (.int a2), some (.int a3), none] [] := by
          intro σ45
          refine tr_aload_n C (i := 0) dX5_sheet_45 rfl rfl ?_
          refine tr_getR C (k := 39) (ci := 5) rfl rfl rfl inT5 rfl (by decide) w987 dX5_sheet_46 ?_
          refine tr_iload_n C (i := 1) dX5_sheet_49 rfl rfl ?_
          refine tr_iload_n C (i := 2) dX5_sheet_50 rfl rfl ?_
          have B59 : ∀ (σ59 : Mem) (z0_59 : Int32) (z1_59 : Int32), Tr p l e { frames := 2, cells := 0, slots := 0, locals := 45 } s m args below meth c g ad (shM g) A 5 (QI g ad (shM g) A below args s) (fX5_sheet_b59 a1 a2 a3 σ59 z0_59 z1_59) σ59 59 [some (.ref (ad 0)), some (.int a1), some (.int a2), some (.int a3), none] [.int z0_59, .int z1_59, .ref (ad 13)] := by
            intro σ59 z0_59 z1_59
            refine tr_zast C (n := 4) (σ' := wr σ59 13 z1_59 (vp_nar .boolean z0_59)) rfl dX5_sheet_59 rfl (fun h12 => ?_)
            refine tr_stp (fun σw3 eσw3 => ?_)
            refine tr_aload_n C (i := 0) dX5_sheet_60 rfl rfl ?_
            refine tr_getR C (k := 40) (ci := 5) rfl rfl rfl inT5 rfl (by decide) w988 dX5_sheet_61 ?_
            refine tr_iload_n C (i := 1) dX5_sheet_64 rfl rfl ?_
            refine tr_iload_n C (i := 2) dX5_sheet_65 rfl rfl ?_
            refine tr_iast C (n := 4) (σ' := wr σw3 14 a1 a2) rfl dX5_sheet_66 rfl (fun h11 => ?_)
            refine tr_stp (fun σw4 eσw4 => ?_)
            refine tr_aload_n C (i := 0) dX5_sheet_67 rfl rfl ?_
            refine tr_getR C (k := 41) (ci := 5) rfl rfl rfl inT5 rfl (by decide) w989 dX5_sheet_68 ?_
            refine tr_iload_n C (i := 1) dX5_sheet_71 rfl rfl ?_
            refine tr_iload_n C (i := 3) dX5_sheet_72 rfl rfl ?_
            refine tr_iast C (n := 4) (σ' := wr σw4 15 a1 a3) rfl dX5_sheet_73 rfl (fun h10 => ?_)
            refine tr_stp (fun σw5 eσw5 => ?_)
            refine tr_iconst C (v := 0) dX5_sheet_74 (by decide) ?_
            refine tr_istore C (i := 4) (lv' := [some (.ref (ad 0)), some (.int a1), some (.int a2), some (.int a3), some (.int 0)]) dX5_sheet_75 (by decide) rfl ?_
            refine tr_loop (b := fX5_sheet_L77 a1 a2 a3) (sg := fun v => v.1) (lw := fun v => [some (.ref (ad 0)), some (.int a1), some (.int a2), some (.int a3), some (.int v.2)]) (sw := fun v => []) (fun ih77 IH77 v => ?_) 1000 (σw5, 0)
            obtain ⟨σ77, y4_77⟩ := v
            refine tr_st (σ' := σ77) (lv' := [some (.ref (ad 0)), some (.int a1), some (.int a2), some (.int a3), some (.int y4_77)]) (st' := []) rfl rfl rfl ?_
            refine tr_iload C (i := 4) dX5_sheet_77 rfl ?_
            refine tr_iload_n C (i := 3) dX5_sheet_79 rfl rfl ?_
            refine tr_icmp_ge C (tgt := 106) dX5_sheet_80 (by decide) (fun q9 => ?_) (fun q9 => ?_)
            · refine tr_iconst C (v := 1) dX5_sheet_106 (by decide) ?_
              exact tr_iret C hr hlk dX5_sheet_107
            · refine tr_iload_n C (i := 2) dX5_sheet_83 rfl rfl ?_
              refine tr_if_lt C (tgt := 106) dX5_sheet_84 (by decide) (fun q8 => ?_) (fun q8 => ?_)
              · refine tr_iconst C (v := 1) dX5_sheet_106 (by decide) ?_
                exact tr_iret C hr hlk dX5_sheet_107
              · refine tr_aload_n C (i := 0) dX5_sheet_87 rfl rfl ?_
                refine tr_getR C (k := 42) (ci := 5) rfl rfl rfl inT5 rfl (by decide) w990 dX5_sheet_88 ?_
                refine tr_bipush C (v := 40) dX5_sheet_91 (by decide) ?_
                refine tr_iload_n C (i := 1) dX5_sheet_93 rfl rfl ?_
                refine tr_imul C dX5_sheet_94 ?_
                refine tr_iload C (i := 4) dX5_sheet_95 rfl ?_
                refine tr_iadd C dX5_sheet_97 ?_
                refine tr_iconst C (v := 0) dX5_sheet_98 (by decide) ?_
                refine tr_iast C (n := 160) (σ' := wr σ77 16 ((40 * a1) + y4_77) 0) rfl dX5_sheet_99 rfl (fun h7 => ?_)
                refine tr_stp (fun σw6 eσw6 => ?_)
                refine tr_iinc C (i := 4) (d := 1) (lv' := [some (.ref (ad 0)), some (.int a1), some (.int a2), some (.int a3), some (.int (y4_77 + 1))]) dX5_sheet_100 rfl (by decide) (by decide) rfl ?_
                refine tr_goto C (tgt := 77) dX5_sheet_103 (by decide) ?_
                exact IH77 (σw6, y4_77 + 1)
          refine tr_if_lt C (tgt := 58) dX5_sheet_51 (by decide) (fun q13 => ?_) (fun q13 => ?_)
          · refine tr_iconst C (v := 0) dX5_sheet_58 (by decide) ?_
            exact B59 σ45 0 a1
          · refine tr_iconst C (v := 1) dX5_sheet_54 (by decide) ?_
            refine tr_goto C (tgt := 59) dX5_sheet_55 (by decide) ?_
            exact B59 σ45 1 a1
        refine tr_if_lt C (tgt := 45) dX5_sheet_35 (by decide) (fun q15 => ?_) (fun q15 => ?_)
        · exact B45 σ34
        · refine tr_iload_n C (i := 3) dX5_sheet_38 rfl rfl ?_
          refine tr_if_ge C (tgt := 45) dX5_sheet_39 (by decide) (fun q14 => ?_) (fun q14 => ?_)
          · exact B45 σ34
          · refine tr_bipush C (v := -14) dX5_sheet_42 (by decide) ?_
            exact tr_iret C hr hlk dX5_sheet_44
      refine tr_if_lt C (tgt := 34) dX5_sheet_22 (by decide) (fun q17 => ?_) (fun q17 => ?_)
      · exact B34 σ
      · refine tr_iload_n C (i := 3) dX5_sheet_25 rfl rfl ?_
        refine tr_bipush C (v := 40) dX5_sheet_26 (by decide) ?_
        refine tr_icmp_le C (tgt := 34) dX5_sheet_28 (by decide) (fun q16 => ?_) (fun q16 => ?_)
        · exact B34 σ
        · refine tr_bipush C (v := -2) dX5_sheet_31 (by decide) ?_
          exact tr_iret C hr hlk dX5_sheet_33
def fX5_film_L48 (a1 : Int32) (a2 : Int32) (ih48 : Mem × Int32 × Int32 × Int32 → Option (Int32 × Mem)) : Mem × Int32 × Int32 × Int32 → Option (Int32 × Mem) := fun v => match v with
  | (σ48, y3_48, y4_48, y5_48) =>
    if 10 ≤ y5_48 then (
      stp (putI σ48 0 8 y3_48) fun σw4 => (
        some (y4_48, σw4)
      )
    ) else (
      stp (putI σ48 0 8 y5_48) fun σw5 => (
        bnd (fX5_goesOf a2 σw5) fun r6 σ6 => (
          gd (inB ((40 * a1) + y5_48) 160) (stp (wr σ6 16 ((40 * a1) + y5_48) r6) fun σw7 => (
            bnd (fX5_goesOf a2 σw7) fun r8 σ8 => (
              ih48 (σ8, y3_48, y4_48 + r8, y5_48 + 1)
            )
          ))
        )
      )
    )
def fX5_film (a1 : Int32) (a2 : Int32) (σ : Mem) : Option (Int32 × Mem) :=
  bn1 (fX5_isSheet a1 σ) fun r1 => (
    if r1 = 0 then (
      some (-2, σ)
    ) else (
      bn1 (fX5_isOne a2 σ) fun r2 => (
        if r2 = 0 then (
          some (-2, σ)
        ) else (
          gd (inB a2 8) (
            if (rd σ 7 a2) = (-1) then (
              some (-2, σ)
            ) else (
              bnd (fX5_sheet a1 0 10 σ) fun r3 σ3 => (
                loopN (fX5_film_L48 a1 a2) 1000 (σ3, σ3.1 0 8, 0, 0)
              )
            )
          )
        )
      )
    )
  )
set_option maxHeartbeats 4000000 in
set_option maxRecDepth 100000 in
theorem kX5_film (l : Launch) (g : GG) (cs : CS) (ad : Nat → Nat) (a1 : Int32) (a2 : Int32) (σ : Mem) : CtI l g cs ad (shM g) mX5_film (.code mX5_film cX5_film 6 (some .int)) { frames := 77, cells := 0, slots := 0, locals := 2874 } [.ref (ad 0), .int a1, .int a2] σ (fX5_film a1 a2 σ) := by
  refine ctI_intro (own := "KinInTheHeapModel") (by decide +kernel) rfl [some (.ref (ad 0)), some (.int a1), some (.int a2), none, none, none] (Nat.le_of_ble_eq_true rfl) rfl ?_
  intro p e s m args below meth c A C hr hlk
  refine tr_iload_n C (i := 1) dX5_film_0 rfl rfl ?_
  refine tr_cSIP C (av := [.int a1]) (st := []) (kX5_isSheet l g cs ad a1 σ) mwX5_isSheet w1271 ⟨rfl, rfl⟩ ⟨(Nat.le_of_ble_eq_true rfl), (Nat.le_of_ble_eq_true rfl)⟩ rfl rfl (Nat.le_of_ble_eq_true rfl) dX5_film_1 (fun r1 hr1 => ?_)
  refine tr_if_eq C (tgt := 25) dX5_film_4 (by decide) (fun q14 => ?_) (fun q14 => ?_)
  · refine tr_bipush C (v := -2) dX5_film_25 (by decide) ?_
    exact tr_iret C hr hlk dX5_film_27
  · refine tr_aload_n C (i := 0) dX5_film_7 rfl rfl ?_
    refine tr_iload_n C (i := 2) dX5_film_8 rfl rfl ?_
    refine tr_cVIP C (av := [.int a2]) (st := []) (kX5_isOne l g cs ad a2 σ) mwX5_isOne w1095 rfl rfl ⟨rfl, rfl⟩ ⟨(Nat.le_of_ble_eq_true rfl), (Nat.le_of_ble_eq_true rfl)⟩ rfl rfl (Nat.le_of_ble_eq_true rfl) dX5_film_9 (fun r2 hr2 => ?_)
    refine tr_if_eq C (tgt := 25) dX5_film_12 (by decide) (fun q13 => ?_) (fun q13 => ?_)
    · refine tr_bipush C (v := -2) dX5_film_25 (by decide) ?_
      exact tr_iret C hr hlk dX5_film_27
    · refine tr_aload_n C (i := 0) dX5_film_15 rfl rfl ?_
      refine tr_getR C (k := 12) (ci := 5) rfl rfl rfl inT5 rfl (by decide) w960 dX5_film_16 ?_
      refine tr_iload_n C (i := 2) dX5_film_19 rfl rfl ?_
      refine tr_iald C (n := 8) rfl dX5_film_20 (fun h12 => ?_)
      refine tr_iconst C (v := -1) dX5_film_21 (by decide) ?_
      refine tr_icmp_ne C (tgt := 28) dX5_film_22 (by decide) (fun q11 => ?_) (fun q11 => ?_)
      · refine tr_bipush C (v := -2) dX5_film_25 (by decide) ?_
        exact tr_iret C hr hlk dX5_film_27
      · refine tr_aload_n C (i := 0) dX5_film_28 rfl rfl ?_
        refine tr_iload_n C (i := 1) dX5_film_29 rfl rfl ?_
        refine tr_iconst C (v := 0) dX5_film_30 (by decide) ?_
        refine tr_bipush C (v := 10) dX5_film_31 (by decide) ?_
        refine tr_cVI C (av := [.int a1, .int 0, .int 10]) (st := []) (kX5_sheet l g cs ad a1 0 10 σ) mwX5_sheet w1397 rfl rfl ⟨rfl, rfl⟩ ⟨(Nat.le_of_ble_eq_true rfl), (Nat.le_of_ble_eq_true rfl)⟩ rfl rfl (Nat.le_of_ble_eq_true rfl) dX5_film_33 (fun r3 σ3 hr3 => ?_)
        refine tr_pop C dX5_film_36 rfl ?_
        refine tr_aload_n C (i := 0) dX5_film_37 rfl rfl ?_
        refine tr_getI C (k := 8) (ci := 5) rfl rfl rfl inT5 rfl (by decide) w956 dX5_film_38 ?_
        refine tr_istore_n C (i := 3) (lv' := [some (.ref (ad 0)), some (.int a1), some (.int a2), some (.int (σ3.1 0 8)), none, none]) dX5_film_41 rfl (by decide) rfl ?_
        refine tr_iconst C (v := 0) dX5_film_42 (by decide) ?_
        refine tr_istore C (i := 4) (lv' := [some (.ref (ad 0)), some (.int a1), some (.int a2), some (.int (σ3.1 0 8)), some (.int 0), none]) dX5_film_43 (by decide) rfl ?_
        refine tr_iconst C (v := 0) dX5_film_45 (by decide) ?_
        refine tr_istore C (i := 5) (lv' := [some (.ref (ad 0)), some (.int a1), some (.int a2), some (.int (σ3.1 0 8)), some (.int 0), some (.int 0)]) dX5_film_46 (by decide) rfl ?_
        refine tr_loop (b := fX5_film_L48 a1 a2) (sg := fun v => v.1) (lw := fun v => [some (.ref (ad 0)), some (.int a1), some (.int a2), some (.int v.2.1), some (.int v.2.2.1), some (.int v.2.2.2)]) (sw := fun v => []) (fun ih48 IH48 v => ?_) 1000 (σ3, σ3.1 0 8, 0, 0)
        obtain ⟨σ48, y3_48, y4_48, y5_48⟩ := v
        refine tr_st (σ' := σ48) (lv' := [some (.ref (ad 0)), some (.int a1), some (.int a2), some (.int y3_48), some (.int y4_48), some (.int y5_48)]) (st' := []) rfl rfl rfl ?_
        refine tr_iload C (i := 5) dX5_film_48 rfl ?_
        refine tr_bipush C (v := 10) dX5_film_50 (by decide) ?_
        refine tr_icmp_ge C (tgt := 94) dX5_film_52 (by decide) (fun q10 => ?_) (fun q10 => ?_)
        · refine tr_aload_n C (i := 0) dX5_film_94 rfl rfl ?_
          refine tr_iload_n C (i := 3) dX5_film_95 rfl rfl ?_
          refine tr_putI C (k := 8) (ci := 5) (σ' := putI σ48 0 8 y3_48) rfl rfl rfl inT5 rfl (by decide) tyX5 tyX5_ok nmX5 rfl rfl w956 dX5_film_96 rfl ?_
          refine tr_stp (fun σw4 eσw4 => ?_)
          refine tr_iload C (i := 4) dX5_film_99 rfl ?_
          exact tr_iret C hr hlk dX5_film_101
        · refine tr_aload_n C (i := 0) dX5_film_55 rfl rfl ?_
          refine tr_iload C (i := 5) dX5_film_56 rfl ?_
          refine tr_putI C (k := 8) (ci := 5) (σ' := putI σ48 0 8 y5_48) rfl rfl rfl inT5 rfl (by decide) tyX5 tyX5_ok nmX5 rfl rfl w956 dX5_film_58 rfl ?_
          refine tr_stp (fun σw5 eσw5 => ?_)
          refine tr_aload_n C (i := 0) dX5_film_61 rfl rfl ?_
          refine tr_getR C (k := 42) (ci := 5) rfl rfl rfl inT5 rfl (by decide) w990 dX5_film_62 ?_
          refine tr_bipush C (v := 40) dX5_film_65 (by decide) ?_
          refine tr_iload_n C (i := 1) dX5_film_67 rfl rfl ?_
          refine tr_imul C dX5_film_68 ?_
          refine tr_iload C (i := 5) dX5_film_69 rfl ?_
          refine tr_iadd C dX5_film_71 ?_
          refine tr_aload_n C (i := 0) dX5_film_72 rfl rfl ?_
          refine tr_iload_n C (i := 2) dX5_film_73 rfl rfl ?_
          refine tr_cVI C (av := [.int a2]) (st := [.int ((40 * a1) + y5_48), .ref (ad 16)]) (kX5_goesOf l g cs ad a2 σw5) mwX5_goesOf w1112 rfl rfl ⟨rfl, rfl⟩ ⟨(Nat.le_of_ble_eq_true rfl), (Nat.le_of_ble_eq_true rfl)⟩ rfl rfl (Nat.le_of_ble_eq_true rfl) dX5_film_74 (fun r6 σ6 hr6 => ?_)
          refine tr_iast C (n := 160) (σ' := wr σ6 16 ((40 * a1) + y5_48) r6) rfl dX5_film_77 rfl (fun h9 => ?_)
          refine tr_stp (fun σw7 eσw7 => ?_)
          refine tr_iload C (i := 4) dX5_film_78 rfl ?_
          refine tr_aload_n C (i := 0) dX5_film_80 rfl rfl ?_
          refine tr_iload_n C (i := 2) dX5_film_81 rfl rfl ?_
          refine tr_cVI C (av := [.int a2]) (st := [.int y4_48]) (kX5_goesOf l g cs ad a2 σw7) mwX5_goesOf w1112 rfl rfl ⟨rfl, rfl⟩ ⟨(Nat.le_of_ble_eq_true rfl), (Nat.le_of_ble_eq_true rfl)⟩ rfl rfl (Nat.le_of_ble_eq_true rfl) dX5_film_82 (fun r8 σ8 hr8 => ?_)
          refine tr_iadd C dX5_film_85 ?_
          refine tr_istore C (i := 4) (lv' := [some (.ref (ad 0)), some (.int a1), some (.int a2), some (.int y3_48), some (.int (y4_48 + r8)), some (.int y5_48)]) dX5_film_86 (by decide) rfl ?_
          refine tr_iinc C (i := 5) (d := 1) (lv' := [some (.ref (ad 0)), some (.int a1), some (.int a2), some (.int y3_48), some (.int (y4_48 + r8)), some (.int (y5_48 + 1))]) dX5_film_88 rfl (by decide) (by decide) rfl ?_
          refine tr_goto C (tgt := 48) dX5_film_91 (by decide) ?_
          exact IH48 (σ8, y3_48, y4_48 + r8, y5_48 + 1)
def fX5_outDrawn_b43 (a1 : Int32) (a2 : Int32) (σ43 : Mem) : Option (Int32 × Mem) :=
  bn1 (fX5_outMany σ43) fun r2 => (
    bn1 (fX5_laysBack σ43) fun σ3 => (
      some (r2, σ3)
    )
  )
def fX5_outDrawn_L9 (a1 : Int32) (a2 : Int32) (ih9 : Mem × Int32 × Int32 → Option (Int32 × Mem)) : Mem × Int32 × Int32 → Option (Int32 × Mem) := fun v => match v with
  | (σ9, y3_9, y4_9) =>
    if a2 ≤ y4_9 then (
      fX5_outDrawn_b43 a1 a2 σ9
    ) else (
      bnd (fX5_strokes (((((y3_9 * 1103515245) + 12345).toUInt32 >>> ((9 : Int32).toUInt32 &&& Int32.toUInt32 31)).toInt32) - ((((y3_9 * 1103515245) + 12345).toUInt32 >>> ((9 : Int32).toUInt32 &&& Int32.toUInt32 31)).toInt32) / 24 * 24) σ9) fun r4 σ4 => (
        ih9 (σ4, (y3_9 * 1103515245) + 12345, y4_9 + 1)
      )
    )
def fX5_outDrawn (a1 : Int32) (a2 : Int32) (σ : Mem) : Option (Int32 × Mem) :=
  bn1 (fX5_laysAside σ) fun σ1 => (
    loopN (fX5_outDrawn_L9 a1 a2) 1000 (σ1, a1, 0)
  )
set_option maxHeartbeats 4000000 in
set_option maxRecDepth 100000 in
theorem kX5_outDrawn (l : Launch) (g : GG) (cs : CS) (ad : Nat → Nat) (a1 : Int32) (a2 : Int32) (σ : Mem) : CtI l g cs ad (shM g) mX5_outDrawn (.code mX5_outDrawn cX5_outDrawn 5 (some .int)) { frames := 79, cells := 0, slots := 0, locals := 2920 } [.ref (ad 0), .int a1, .int a2] σ (fX5_outDrawn a1 a2 σ) := by
  refine ctI_intro (own := "KinInTheHeapModel") (by decide +kernel) rfl [some (.ref (ad 0)), some (.int a1), some (.int a2), none, none] (Nat.le_of_ble_eq_true rfl) rfl ?_
  intro p e s m args below meth c A C hr hlk
  refine tr_aload_n C (i := 0) dX5_outDrawn_0 rfl rfl ?_
  refine tr_cVV C (av := []) (st := []) (kX5_laysAside l g cs ad σ) mwX5_laysAside w1280 rfl rfl ⟨rfl, rfl⟩ ⟨(Nat.le_of_ble_eq_true rfl), (Nat.le_of_ble_eq_true rfl)⟩ rfl rfl (Nat.le_of_ble_eq_true rfl) dX5_outDrawn_1 (fun σ1 hr1 => ?_)
  refine tr_iload_n C (i := 1) dX5_outDrawn_4 rfl rfl ?_
  refine tr_istore_n C (i := 3) (lv' := [some (.ref (ad 0)), some (.int a1), some (.int a2), some (.int a1), none]) dX5_outDrawn_5 rfl (by decide) rfl ?_
  refine tr_iconst C (v := 0) dX5_outDrawn_6 (by decide) ?_
  refine tr_istore C (i := 4) (lv' := [some (.ref (ad 0)), some (.int a1), some (.int a2), some (.int a1), some (.int 0)]) dX5_outDrawn_7 (by decide) rfl ?_
  refine tr_mask [true, false, true, true, true] rfl ?_
  refine tr_loop (b := fX5_outDrawn_L9 a1 a2) (sg := fun v => v.1) (lw := fun v => [some (.ref (ad 0)), none, some (.int a2), some (.int v.2.1), some (.int v.2.2)]) (sw := fun v => []) (fun ih9 IH9 v => ?_) 1000 (σ1, a1, 0)
  obtain ⟨σ9, y3_9, y4_9⟩ := v
  refine tr_st (σ' := σ9) (lv' := [some (.ref (ad 0)), none, some (.int a2), some (.int y3_9), some (.int y4_9)]) (st' := []) rfl rfl rfl ?_
  refine tr_iload C (i := 4) dX5_outDrawn_9 rfl ?_
  refine tr_iload_n C (i := 2) dX5_outDrawn_11 rfl rfl ?_
  have B43 : ∀ (σ43 : Mem), Tr p l e { frames := 79, cells := 0, slots := 0, locals := 2920 } s m args below meth c g ad (shM g) A 5 (QI g ad (shM g) A below args s) (fX5_outDrawn_b43 a1 a2 σ43) σ43 43 [some (.ref (ad 0)), none, none, none, none] [] := by
    intro σ43
    refine tr_aload_n C (i := 0) dX5_outDrawn_43 rfl rfl ?_
    refine tr_cVIP C (av := []) (st := []) (kX5_outMany l g cs ad σ43) mwX5_outMany w1352 rfl rfl ⟨rfl, rfl⟩ ⟨(Nat.le_of_ble_eq_true rfl), (Nat.le_of_ble_eq_true rfl)⟩ rfl rfl (Nat.le_of_ble_eq_true rfl) dX5_outDrawn_44 (fun r2 hr2 => ?_)
    refine tr_istore C (i := 4) (lv' := [some (.ref (ad 0)), none, none, none, some (.int r2)]) dX5_outDrawn_47 (by decide) rfl ?_
    refine tr_aload_n C (i := 0) dX5_outDrawn_49 rfl rfl ?_
    refine tr_cVV C (av := []) (st := []) (kX5_laysBack l g cs ad σ43) mwX5_laysBack w1303 rfl rfl ⟨rfl, rfl⟩ ⟨(Nat.le_of_ble_eq_true rfl), (Nat.le_of_ble_eq_true rfl)⟩ rfl rfl (Nat.le_of_ble_eq_true rfl) dX5_outDrawn_50 (fun σ3 hr3 => ?_)
    refine tr_iload C (i := 4) dX5_outDrawn_53 rfl ?_
    exact tr_iret C hr hlk dX5_outDrawn_55
  refine tr_icmp_ge C (tgt := 43) dX5_outDrawn_12 (by decide) (fun q5 => ?_) (fun q5 => ?_)
  · refine tr_mask [true, false, false, false, false] rfl ?_
    exact B43 σ9
  · refine tr_iload_n C (i := 3) dX5_outDrawn_15 rfl rfl ?_
    refine tr_ldcw C (v := 1103515245) w1410 dX5_outDrawn_16 ?_
    refine tr_imul C dX5_outDrawn_19 ?_
    refine tr_sipush C (v := 12345) dX5_outDrawn_20 (by decide) ?_
    refine tr_iadd C dX5_outDrawn_23 ?_
    refine tr_istore_n C (i := 3) (lv' := [some (.ref (ad 0)), none, some (.int a2), some (.int ((y3_9 * 1103515245) + 12345)), some (.int y4_9)]) dX5_outDrawn_24 rfl (by decide) rfl ?_
    refine tr_aload_n C (i := 0) dX5_outDrawn_25 rfl rfl ?_
    refine tr_iload_n C (i := 3) dX5_outDrawn_26 rfl rfl ?_
    refine tr_bipush C (v := 9) dX5_outDrawn_27 (by decide) ?_
    refine tr_iushr C dX5_outDrawn_29 ?_
    refine tr_bipush C (v := 24) dX5_outDrawn_30 (by decide) ?_
    refine tr_iremK C dX5_outDrawn_32 (by decide) ?_
    refine tr_cVI C (av := [.int (((((y3_9 * 1103515245) + 12345).toUInt32 >>> ((9 : Int32).toUInt32 &&& Int32.toUInt32 31)).toInt32) - ((((y3_9 * 1103515245) + 12345).toUInt32 >>> ((9 : Int32).toUInt32 &&& Int32.toUInt32 31)).toInt32) / 24 * 24)]) (st := []) (kX5_strokes l g cs ad (((((y3_9 * 1103515245) + 12345).toUInt32 >>> ((9 : Int32).toUInt32 &&& Int32.toUInt32 31)).toInt32) - ((((y3_9 * 1103515245) + 12345).toUInt32 >>> ((9 : Int32).toUInt32 &&& Int32.toUInt32 31)).toInt32) / 24 * 24) σ9) mwX5_strokes w1240 rfl rfl ⟨rfl, rfl⟩ ⟨(Nat.le_of_ble_eq_true rfl), (Nat.le_of_ble_eq_true rfl)⟩ rfl rfl (Nat.le_of_ble_eq_true rfl) dX5_outDrawn_33 (fun r4 σ4 hr4 => ?_)
    refine tr_pop C dX5_outDrawn_36 rfl ?_
    refine tr_iinc C (i := 4) (d := 1) (lv' := [some (.ref (ad 0)), none, some (.int a2), some (.int ((y3_9 * 1103515245) + 12345)), some (.int (y4_9 + 1))]) dX5_outDrawn_37 rfl (by decide) (by decide) rfl ?_
    refine tr_goto C (tgt := 9) dX5_outDrawn_40 (by decide) ?_
    exact IH9 (σ4, (y3_9 * 1103515245) + 12345, y4_9 + 1)
def fX5_drawn (a1 : Int32) (a2 : Int32) (σ : Mem) : Option (Int32 × Mem) :=
  bn1 (fX5_in a2.toInt64 0 40 σ) fun r1 => (
    if r1 = 0 then (
      some (-2, σ)
    ) else (
      bnd (fX5_outDrawn a1 a2 σ) fun r2 σ2 => (
        some (r2, σ2)
      )
    )
  )
set_option maxHeartbeats 4000000 in
set_option maxRecDepth 100000 in
theorem kX5_drawn (l : Launch) (g : GG) (cs : CS) (ad : Nat → Nat) (a1 : Int32) (a2 : Int32) (σ : Mem) : CtI l g cs ad (shM g) mX5_drawn (.code mX5_drawn cX5_drawn 3 (some .int)) { frames := 80, cells := 0, slots := 0, locals := 2944 } [.ref (ad 0), .int a1, .int a2] σ (fX5_drawn a1 a2 σ) := by
  refine ctI_intro (own := "KinInTheHeapModel") (by decide +kernel) rfl [some (.ref (ad 0)), some (.int a1), some (.int a2)] (Nat.le_of_ble_eq_true rfl) rfl ?_
  intro p e s m args below meth c A C hr hlk
  refine tr_iload_n C (i := 2) dX5_drawn_0 rfl rfl ?_
  refine tr_i2l C dX5_drawn_1 ?_
  refine tr_lconst C (v := 0) dX5_drawn_2 (by decide) ?_
  refine tr_ldc2 C (v := 40) w1368 dX5_drawn_3 ?_
  refine tr_cSIP C (av := [.long a2.toInt64, .long 0, .long 40]) (st := []) (kX5_in l g cs ad a2.toInt64 0 40 σ) mwX5_in w1084 ⟨rfl, rfl⟩ ⟨(Nat.le_of_ble_eq_true rfl), (Nat.le_of_ble_eq_true rfl)⟩ rfl rfl (Nat.le_of_ble_eq_true rfl) dX5_drawn_6 (fun r1 hr1 => ?_)
  refine tr_if_eq C (tgt := 21) dX5_drawn_9 (by decide) (fun q3 => ?_) (fun q3 => ?_)
  · refine tr_bipush C (v := -2) dX5_drawn_21 (by decide) ?_
    exact tr_iret C hr hlk dX5_drawn_23
  · refine tr_aload_n C (i := 0) dX5_drawn_12 rfl rfl ?_
    refine tr_iload_n C (i := 1) dX5_drawn_13 rfl rfl ?_
    refine tr_iload_n C (i := 2) dX5_drawn_14 rfl rfl ?_
    refine tr_cVI C (av := [.int a1, .int a2]) (st := []) (kX5_outDrawn l g cs ad a1 a2 σ) mwX5_outDrawn w1406 rfl rfl ⟨rfl, rfl⟩ ⟨(Nat.le_of_ble_eq_true rfl), (Nat.le_of_ble_eq_true rfl)⟩ rfl rfl (Nat.le_of_ble_eq_true rfl) dX5_drawn_15 (fun r2 σ2 hr2 => ?_)
    refine tr_goto C (tgt := 23) dX5_drawn_18 (by decide) ?_
    exact tr_iret C hr hlk dX5_drawn_23
def fX5_chance_b81 (a1 : Int32) (a2 : Int32) (a3 : Int32) (a4 : Int32) (σ81 : Mem) (y5_81 : Int64) : Option (Int64 × Mem) :=
  bn1 (fX5_lowest y5_81 a2.toInt64 a4 σ81) fun r4 => (
    some (r4, σ81)
  )
def fX5_chance_L45 (a1 : Int32) (a2 : Int32) (a3 : Int32) (a4 : Int32) (ih45 : Mem × Int64 × Int32 → Option (Int64 × Mem)) : Mem × Int64 × Int32 → Option (Int64 × Mem) := fun v => match v with
  | (σ45, y5_45, y7_45) =>
    if a2 ≤ y7_45 then (
      fX5_chance_b81 a1 a2 a3 a4 σ45 y5_45
    ) else (
      bnd (fX5_outDrawn (a1 + y7_45) 6 σ45) fun r5 σ5 => (
        if a3 < r5 then (
          ih45 (σ5, y5_45 + 0, y7_45 + 1)
        ) else (
          ih45 (σ5, y5_45 + 1, y7_45 + 1)
        )
      )
    )
def fX5_chance (a1 : Int32) (a2 : Int32) (a3 : Int32) (a4 : Int32) (σ : Mem) : Option (Int64 × Mem) :=
  bn1 (fX5_in a2.toInt64 1 20 σ) fun r1 => (
    if r1 = 0 then (
      some (-4611686018427387904, σ)
    ) else (
      bn1 (fX5_in a3.toInt64 0 8 σ) fun r2 => (
        if r2 = 0 then (
          some (-4611686018427387904, σ)
        ) else (
          bn1 (fX5_in a4.toInt64 0 1 σ) fun r3 => (
            if r3 = 0 then (
              some (-4611686018427387904, σ)
            ) else (
              loopN (fX5_chance_L45 a1 a2 a3 a4) 1000 (σ, 0, 0)
            )
          )
        )
      )
    )
  )
set_option maxHeartbeats 4000000 in
set_option maxRecDepth 100000 in
theorem kX5_chance (l : Launch) (g : GG) (cs : CS) (ad : Nat → Nat) (a1 : Int32) (a2 : Int32) (a3 : Int32) (a4 : Int32) (σ : Mem) : CtL l g cs ad (shM g) mX5_chance (.code mX5_chance cX5_chance 8 (some .long)) { frames := 80, cells := 0, slots := 0, locals := 2944 } [.ref (ad 0), .int a1, .int a2, .int a3, .int a4] σ (fX5_chance a1 a2 a3 a4 σ) := by
  refine ctL_intro (own := "KinInTheHeapModel") (by decide +kernel) rfl [some (.ref (ad 0)), some (.int a1), some (.int a2), some (.int a3), some (.int a4), none, none, none] (Nat.le_of_ble_eq_true rfl) rfl ?_
  intro p e s m args below meth c A C hr hlk
  refine tr_iload_n C (i := 2) dX5_chance_0 rfl rfl ?_
  refine tr_i2l C dX5_chance_1 ?_
  refine tr_lconst C (v := 1) dX5_chance_2 (by decide) ?_
  refine tr_ldc2 C (v := 20) w1415 dX5_chance_3 ?_
  refine tr_cSIP C (av := [.long a2.toInt64, .long 1, .long 20]) (st := []) (kX5_in l g cs ad a2.toInt64 1 20 σ) mwX5_in w1084 ⟨rfl, rfl⟩ ⟨(Nat.le_of_ble_eq_true rfl), (Nat.le_of_ble_eq_true rfl)⟩ rfl rfl (Nat.le_of_ble_eq_true rfl) dX5_chance_6 (fun r1 hr1 => ?_)
  refine tr_if_eq C (tgt := 35) dX5_chance_9 (by decide) (fun q10 => ?_) (fun q10 => ?_)
  · refine tr_ldc2 C (v := -4611686018427387904) w1323 dX5_chance_35 ?_
    exact tr_lret C hr hlk dX5_chance_38
  · refine tr_iload_n C (i := 3) dX5_chance_12 rfl rfl ?_
    refine tr_i2l C dX5_chance_13 ?_
    refine tr_lconst C (v := 0) dX5_chance_14 (by decide) ?_
    refine tr_ldc2 C (v := 8) w1416 dX5_chance_15 ?_
    refine tr_cSIP C (av := [.long a3.toInt64, .long 0, .long 8]) (st := []) (kX5_in l g cs ad a3.toInt64 0 8 σ) mwX5_in w1084 ⟨rfl, rfl⟩ ⟨(Nat.le_of_ble_eq_true rfl), (Nat.le_of_ble_eq_true rfl)⟩ rfl rfl (Nat.le_of_ble_eq_true rfl) dX5_chance_18 (fun r2 hr2 => ?_)
    refine tr_if_eq C (tgt := 35) dX5_chance_21 (by decide) (fun q9 => ?_) (fun q9 => ?_)
    · refine tr_ldc2 C (v := -4611686018427387904) w1323 dX5_chance_35 ?_
      exact tr_lret C hr hlk dX5_chance_38
    · refine tr_iload C (i := 4) dX5_chance_24 rfl ?_
      refine tr_i2l C dX5_chance_26 ?_
      refine tr_lconst C (v := 0) dX5_chance_27 (by decide) ?_
      refine tr_lconst C (v := 1) dX5_chance_28 (by decide) ?_
      refine tr_cSIP C (av := [.long a4.toInt64, .long 0, .long 1]) (st := []) (kX5_in l g cs ad a4.toInt64 0 1 σ) mwX5_in w1084 ⟨rfl, rfl⟩ ⟨(Nat.le_of_ble_eq_true rfl), (Nat.le_of_ble_eq_true rfl)⟩ rfl rfl (Nat.le_of_ble_eq_true rfl) dX5_chance_29 (fun r3 hr3 => ?_)
      refine tr_if_ne C (tgt := 39) dX5_chance_32 (by decide) (fun q8 => ?_) (fun q8 => ?_)
      · refine tr_ldc2 C (v := -4611686018427387904) w1323 dX5_chance_35 ?_
        exact tr_lret C hr hlk dX5_chance_38
      · refine tr_lconst C (v := 0) dX5_chance_39 (by decide) ?_
        refine tr_lstore C (i := 5) (lv' := [some (.ref (ad 0)), some (.int a1), some (.int a2), some (.int a3), some (.int a4), some (.long 0), none, none]) dX5_chance_40 (by decide) rfl ?_
        refine tr_iconst C (v := 0) dX5_chance_42 (by decide) ?_
        refine tr_istore C (i := 7) (lv' := [some (.ref (ad 0)), some (.int a1), some (.int a2), some (.int a3), some (.int a4), some (.long 0), none, some (.int 0)]) dX5_chance_43 (by decide) rfl ?_
        refine tr_loop (b := fX5_chance_L45 a1 a2 a3 a4) (sg := fun v => v.1) (lw := fun v => [some (.ref (ad 0)), some (.int a1), some (.int a2), some (.int a3), some (.int a4), some (.long v.2.1), none, some (.int v.2.2)]) (sw := fun v => []) (fun ih45 IH45 v => ?_) 1000 (σ, 0, 0)
        obtain ⟨σ45, y5_45, y7_45⟩ := v
        refine tr_st (σ' := σ45) (lv' := [some (.ref (ad 0)), some (.int a1), some (.int a2), some (.int a3), some (.int a4), some (.long y5_45), none, some (.int y7_45)]) (st' := []) rfl rfl rfl ?_
        refine tr_iload C (i := 7) dX5_chance_45 rfl ?_
        refine tr_iload_n C (i := 2) dX5_chance_47 rfl rfl ?_
        have B81 : ∀ (σ81 : Mem) (y5_81 : Int64), Tr p l e { frames := 80, cells := 0, slots := 0, locals := 2944 } s m args below meth c g ad (shM g) A 8 (QL g ad (shM g) A below args s) (fX5_chance_b81 a1 a2 a3 a4 σ81 y5_81) σ81 81 [none, none, some (.int a2), none, some (.int a4), some (.long y5_81), none, none] [] := by
          intro σ81 y5_81
          refine tr_lload C (i := 5) dX5_chance_81 rfl ?_
          refine tr_iload_n C (i := 2) dX5_chance_83 rfl rfl ?_
          refine tr_i2l C dX5_chance_84 ?_
          refine tr_iload C (i := 4) dX5_chance_85 rfl ?_
          refine tr_cSLP C (av := [.long y5_81, .long a2.toInt64, .int a4]) (st := []) (kX5_lowest l g cs ad y5_81 a2.toInt64 a4 σ81) mwX5_lowest w1373 ⟨rfl, rfl⟩ ⟨(Nat.le_of_ble_eq_true rfl), (Nat.le_of_ble_eq_true rfl)⟩ rfl rfl (Nat.le_of_ble_eq_true rfl) dX5_chance_87 (fun r4 hr4 => ?_)
          exact tr_lret C hr hlk dX5_chance_90
        refine tr_icmp_ge C (tgt := 81) dX5_chance_48 (by decide) (fun q7 => ?_) (fun q7 => ?_)
        · refine tr_mask [false, false, true, false, true, true, false, false] rfl ?_
          exact B81 σ45 y5_45
        · refine tr_lload C (i := 5) dX5_chance_51 rfl ?_
          refine tr_aload_n C (i := 0) dX5_chance_53 rfl rfl ?_
          refine tr_iload_n C (i := 1) dX5_chance_54 rfl rfl ?_
          refine tr_iload C (i := 7) dX5_chance_55 rfl ?_
          refine tr_iadd C dX5_chance_57 ?_
          refine tr_bipush C (v := 6) dX5_chance_58 (by decide) ?_
          refine tr_cVI C (av := [.int (a1 + y7_45), .int 6]) (st := [.long y5_45]) (kX5_outDrawn l g cs ad (a1 + y7_45) 6 σ45) mwX5_outDrawn w1406 rfl rfl ⟨rfl, rfl⟩ ⟨(Nat.le_of_ble_eq_true rfl), (Nat.le_of_ble_eq_true rfl)⟩ rfl rfl (Nat.le_of_ble_eq_true rfl) dX5_chance_60 (fun r5 σ5 hr5 => ?_)
          refine tr_iload_n C (i := 3) dX5_chance_63 rfl rfl ?_
          refine tr_icmp_gt C (tgt := 71) dX5_chance_64 (by decide) (fun q6 => ?_) (fun q6 => ?_)
          · refine tr_lconst C (v := 0) dX5_chance_71 (by decide) ?_
            refine tr_ladd C dX5_chance_72 ?_
            refine tr_lstore C (i := 5) (lv' := [some (.ref (ad 0)), some (.int a1), some (.int a2), some (.int a3), some (.int a4), some (.long (y5_45 + 0)), none, some (.int y7_45)]) dX5_chance_73 (by decide) rfl ?_
            refine tr_iinc C (i := 7) (d := 1) (lv' := [some (.ref (ad 0)), some (.int a1), some (.int a2), some (.int a3), some (.int a4), some (.long (y5_45 + 0)), none, some (.int (y7_45 + 1))]) dX5_chance_75 rfl (by decide) (by decide) rfl ?_
            refine tr_goto C (tgt := 45) dX5_chance_78 (by decide) ?_
            exact IH45 (σ5, y5_45 + 0, y7_45 + 1)
          · refine tr_lconst C (v := 1) dX5_chance_67 (by decide) ?_
            refine tr_goto C (tgt := 72) dX5_chance_68 (by decide) ?_
            refine tr_ladd C dX5_chance_72 ?_
            refine tr_lstore C (i := 5) (lv' := [some (.ref (ad 0)), some (.int a1), some (.int a2), some (.int a3), some (.int a4), some (.long (y5_45 + 1)), none, some (.int y7_45)]) dX5_chance_73 (by decide) rfl ?_
            refine tr_iinc C (i := 7) (d := 1) (lv' := [some (.ref (ad 0)), some (.int a1), some (.int a2), some (.int a3), some (.int a4), some (.long (y5_45 + 1)), none, some (.int (y7_45 + 1))]) dX5_chance_75 rfl (by decide) (by decide) rfl ?_
            refine tr_goto C (tgt := 45) dX5_chance_78 (by decide) ?_
            exact IH45 (σ5, y5_45 + 1, y7_45 + 1)
def fX5_image_b64 (σ64 : Mem) : Option (Int32 × Mem) :=
  stp (putI σ64 0 35 (σ64.1 0 13)) fun σw1 => (
    stp (putI σw1 0 36 (σw1.1 0 7)) fun σw2 => (
      stp (putI σw2 0 37 (σw2.1 0 8)) fun σw3 => (
        stp (putI σw3 0 38 (σw3.1 0 4)) fun σw4 => (
          some (σw4.1 0 13, σw4)
        )
      )
    )
  )
def fX5_image_L28 (ih28 : Mem × Int32 → Option (Int32 × Mem)) : Mem × Int32 → Option (Int32 × Mem) := fun v => match v with
  | (σ28, y1_28) =>
    if 8 ≤ y1_28 then (
      fX5_image_b64 σ28
    ) else (
      gd (inB y1_28 8) (
        gd (inB y1_28 8) (stp (wr σ28 11 y1_28 (rd σ28 6 y1_28)) fun σw5 => (
          gd (inB y1_28 8) (
            gd (inB y1_28 8) (stp (wr σw5 12 y1_28 (rd σw5 7 y1_28)) fun σw6 => (
              ih28 (σw6, y1_28 + 1)
            ))
          )
        ))
      )
    )
def fX5_image_L2 (ih2 : Mem × Int32 → Option (Int32 × Mem)) : Mem × Int32 → Option (Int32 × Mem) := fun v => match v with
  | (σ2, y1_2) =>
    if 36 ≤ y1_2 then (
      loopN (fX5_image_L28) 1000 (σ2, 0)
    ) else (
      gd (inB y1_2 36) (
        gd (inB y1_2 36) (stp (wr σ2 10 y1_2 (rd σ2 4 y1_2)) fun σw12 => (
          ih2 (σw12, y1_2 + 1)
        ))
      )
    )
def fX5_image (σ : Mem) : Option (Int32 × Mem) :=
  loopN (fX5_image_L2) 1000 (σ, 0)
set_option maxHeartbeats 4000000 in
set_option maxRecDepth 100000 in
theorem kX5_image (l : Launch) (g : GG) (cs : CS) (ad : Nat → Nat) (σ : Mem) : CtI l g cs ad (shM g) mX5_image (.code mX5_image cX5_image 2 (some .int)) { frames := 0, cells := 0, slots := 0, locals := 0 } [.ref (ad 0)] σ (fX5_image σ) := by
  refine ctI_intro (own := "KinInTheHeapModel") (by decide +kernel) rfl [some (.ref (ad 0)), none] (Nat.le_of_ble_eq_true rfl) rfl ?_
  intro p e s m args below meth c A C hr hlk
  refine tr_iconst C (v := 0) dX5_image_0 (by decide) ?_
  refine tr_istore_n C (i := 1) (lv' := [some (.ref (ad 0)), some (.int 0)]) dX5_image_1 rfl (by decide) rfl ?_
  refine tr_loop (b := fX5_image_L2) (sg := fun v => v.1) (lw := fun v => [some (.ref (ad 0)), some (.int v.2)]) (sw := fun v => []) (fun ih2 IH2 v => ?_) 1000 (σ, 0)
  obtain ⟨σ2, y1_2⟩ := v
  refine tr_st (σ' := σ2) (lv' := [some (.ref (ad 0)), some (.int y1_2)]) (st' := []) rfl rfl rfl ?_
  refine tr_iload_n C (i := 1) dX5_image_2 rfl rfl ?_
  refine tr_bipush C (v := 36) dX5_image_3 (by decide) ?_
  refine tr_icmp_ge C (tgt := 26) dX5_image_5 (by decide) (fun q15 => ?_) (fun q15 => ?_)
  · refine tr_iconst C (v := 0) dX5_image_26 (by decide) ?_
    refine tr_istore_n C (i := 1) (lv' := [some (.ref (ad 0)), some (.int 0)]) dX5_image_27 rfl (by decide) rfl ?_
    refine tr_loop (b := fX5_image_L28) (sg := fun v => v.1) (lw := fun v => [some (.ref (ad 0)), some (.int v.2)]) (sw := fun v => []) (fun ih28 IH28 v => ?_) 1000 (σ2, 0)
    obtain ⟨σ28, y1_28⟩ := v
    refine tr_st (σ' := σ28) (lv' := [some (.ref (ad 0)), some (.int y1_28)]) (st' := []) rfl rfl rfl ?_
    refine tr_iload_n C (i := 1) dX5_image_28 rfl rfl ?_
    refine tr_bipush C (v := 8) dX5_image_29 (by decide) ?_
    have B64 : ∀ (σ64 : Mem), Tr p l e { frames := 0, cells := 0, slots := 0, locals := 0 } s m args below meth c g ad (shM g) A 2 (QI g ad (shM g) A below args s) (fX5_image_b64 σ64) σ64 64 [some (.ref (ad 0)), none] [] := by
      intro σ64
      refine tr_aload_n C (i := 0) dX5_image_64 rfl rfl ?_
      refine tr_aload_n C (i := 0) dX5_image_65 rfl rfl ?_
      refine tr_getI C (k := 13) (ci := 5) rfl rfl rfl inT5 rfl (by decide) w961 dX5_image_66 ?_
      refine tr_putI C (k := 35) (ci := 5) (σ' := putI σ64 0 35 (σ64.1 0 13)) rfl rfl rfl inT5 rfl (by decide) tyX5 tyX5_ok nmX5 rfl rfl w983 dX5_image_69 rfl ?_
      refine tr_stp (fun σw1 eσw1 => ?_)
      refine tr_aload_n C (i := 0) dX5_image_72 rfl rfl ?_
      refine tr_aload_n C (i := 0) dX5_image_73 rfl rfl ?_
      refine tr_getI C (k := 7) (ci := 5) rfl rfl rfl inT5 rfl (by decide) w955 dX5_image_74 ?_
      refine tr_putI C (k := 36) (ci := 5) (σ' := putI σw1 0 36 (σw1.1 0 7)) rfl rfl rfl inT5 rfl (by decide) tyX5 tyX5_ok nmX5 rfl rfl w984 dX5_image_77 rfl ?_
      refine tr_stp (fun σw2 eσw2 => ?_)
      refine tr_aload_n C (i := 0) dX5_image_80 rfl rfl ?_
      refine tr_aload_n C (i := 0) dX5_image_81 rfl rfl ?_
      refine tr_getI C (k := 8) (ci := 5) rfl rfl rfl inT5 rfl (by decide) w956 dX5_image_82 ?_
      refine tr_putI C (k := 37) (ci := 5) (σ' := putI σw2 0 37 (σw2.1 0 8)) rfl rfl rfl inT5 rfl (by decide) tyX5 tyX5_ok nmX5 rfl rfl w985 dX5_image_85 rfl ?_
      refine tr_stp (fun σw3 eσw3 => ?_)
      refine tr_aload_n C (i := 0) dX5_image_88 rfl rfl ?_
      refine tr_aload_n C (i := 0) dX5_image_89 rfl rfl ?_
      refine tr_getI C (k := 4) (ci := 5) rfl rfl rfl inT5 rfl (by decide) w952 dX5_image_90 ?_
      refine tr_putI C (k := 38) (ci := 5) (σ' := putI σw3 0 38 (σw3.1 0 4)) rfl rfl rfl inT5 rfl (by decide) tyX5 tyX5_ok nmX5 rfl rfl w986 dX5_image_93 rfl ?_
      refine tr_stp (fun σw4 eσw4 => ?_)
      refine tr_aload_n C (i := 0) dX5_image_96 rfl rfl ?_
      refine tr_getI C (k := 13) (ci := 5) rfl rfl rfl inT5 rfl (by decide) w961 dX5_image_97 ?_
      exact tr_iret C hr hlk dX5_image_100
    refine tr_icmp_ge C (tgt := 64) dX5_image_31 (by decide) (fun q11 => ?_) (fun q11 => ?_)
    · refine tr_mask [true, false] rfl ?_
      exact B64 σ28
    · refine tr_aload_n C (i := 0) dX5_image_34 rfl rfl ?_
      refine tr_getR C (k := 33) (ci := 5) rfl rfl rfl inT5 rfl (by decide) w981 dX5_image_35 ?_
      refine tr_iload_n C (i := 1) dX5_image_38 rfl rfl ?_
      refine tr_aload_n C (i := 0) dX5_image_39 rfl rfl ?_
      refine tr_getR C (k := 11) (ci := 5) rfl rfl rfl inT5 rfl (by decide) w959 dX5_image_40 ?_
      refine tr_iload_n C (i := 1) dX5_image_43 rfl rfl ?_
      refine tr_iald C (n := 8) rfl dX5_image_44 (fun h10 => ?_)
      refine tr_iast C (n := 8) (σ' := wr σ28 11 y1_28 (rd σ28 6 y1_28)) rfl dX5_image_45 rfl (fun h9 => ?_)
      refine tr_stp (fun σw5 eσw5 => ?_)
      refine tr_aload_n C (i := 0) dX5_image_46 rfl rfl ?_
      refine tr_getR C (k := 34) (ci := 5) rfl rfl rfl inT5 rfl (by decide) w982 dX5_image_47 ?_
      refine tr_iload_n C (i := 1) dX5_image_50 rfl rfl ?_
      refine tr_aload_n C (i := 0) dX5_image_51 rfl rfl ?_
      refine tr_getR C (k := 12) (ci := 5) rfl rfl rfl inT5 rfl (by decide) w960 dX5_image_52 ?_
      refine tr_iload_n C (i := 1) dX5_image_55 rfl rfl ?_
      refine tr_iald C (n := 8) rfl dX5_image_56 (fun h8 => ?_)
      refine tr_iast C (n := 8) (σ' := wr σw5 12 y1_28 (rd σw5 7 y1_28)) rfl dX5_image_57 rfl (fun h7 => ?_)
      refine tr_stp (fun σw6 eσw6 => ?_)
      refine tr_iinc C (i := 1) (d := 1) (lv' := [some (.ref (ad 0)), some (.int (y1_28 + 1))]) dX5_image_58 rfl (by decide) (by decide) rfl ?_
      refine tr_goto C (tgt := 28) dX5_image_61 (by decide) ?_
      exact IH28 (σw6, y1_28 + 1)
  · refine tr_aload_n C (i := 0) dX5_image_8 rfl rfl ?_
    refine tr_getR C (k := 32) (ci := 5) rfl rfl rfl inT5 rfl (by decide) w980 dX5_image_9 ?_
    refine tr_iload_n C (i := 1) dX5_image_12 rfl rfl ?_
    refine tr_aload_n C (i := 0) dX5_image_13 rfl rfl ?_
    refine tr_getR C (k := 9) (ci := 5) rfl rfl rfl inT5 rfl (by decide) w957 dX5_image_14 ?_
    refine tr_iload_n C (i := 1) dX5_image_17 rfl rfl ?_
    refine tr_iald C (n := 36) rfl dX5_image_18 (fun h14 => ?_)
    refine tr_iast C (n := 36) (σ' := wr σ2 10 y1_2 (rd σ2 4 y1_2)) rfl dX5_image_19 rfl (fun h13 => ?_)
    refine tr_stp (fun σw12 eσw12 => ?_)
    refine tr_iinc C (i := 1) (d := 1) (lv' := [some (.ref (ad 0)), some (.int (y1_2 + 1))]) dX5_image_20 rfl (by decide) (by decide) rfl ?_
    refine tr_goto C (tgt := 2) dX5_image_23 (by decide) ?_
    exact IH2 (σw12, y1_2 + 1)
def fX5_back_b75 (σ75 : Mem) : Option (Int32 × Mem) :=
  stp (putI σ75 0 13 (σ75.1 0 35)) fun σw1 => (
    stp (putI σw1 0 7 (σw1.1 0 36)) fun σw2 => (
      stp (putI σw2 0 8 (σw2.1 0 37)) fun σw3 => (
        stp (putI σw3 0 4 (σw3.1 0 38)) fun σw4 => (
          some (σw4.1 0 13, σw4)
        )
      )
    )
  )
def fX5_back_L39 (ih39 : Mem × Int32 → Option (Int32 × Mem)) : Mem × Int32 → Option (Int32 × Mem) := fun v => match v with
  | (σ39, y1_39) =>
    if 8 ≤ y1_39 then (
      fX5_back_b75 σ39
    ) else (
      gd (inB y1_39 8) (
        gd (inB y1_39 8) (stp (wr σ39 6 y1_39 (rd σ39 11 y1_39)) fun σw5 => (
          gd (inB y1_39 8) (
            gd (inB y1_39 8) (stp (wr σw5 7 y1_39 (rd σw5 12 y1_39)) fun σw6 => (
              ih39 (σw6, y1_39 + 1)
            ))
          )
        ))
      )
    )
def fX5_back_L13 (ih13 : Mem × Int32 → Option (Int32 × Mem)) : Mem × Int32 → Option (Int32 × Mem) := fun v => match v with
  | (σ13, y1_13) =>
    if 36 ≤ y1_13 then (
      loopN (fX5_back_L39) 1000 (σ13, 0)
    ) else (
      gd (inB y1_13 36) (
        gd (inB y1_13 36) (stp (wr σ13 4 y1_13 (rd σ13 10 y1_13)) fun σw12 => (
          ih13 (σw12, y1_13 + 1)
        ))
      )
    )
def fX5_back (σ : Mem) : Option (Int32 × Mem) :=
  if (σ.1 0 35) = (-1) then (
    some (-3, σ)
  ) else (
    loopN (fX5_back_L13) 1000 (σ, 0)
  )
set_option maxHeartbeats 4000000 in
set_option maxRecDepth 100000 in
theorem kX5_back (l : Launch) (g : GG) (cs : CS) (ad : Nat → Nat) (σ : Mem) : CtI l g cs ad (shM g) mX5_back (.code mX5_back cX5_back 2 (some .int)) { frames := 0, cells := 0, slots := 0, locals := 0 } [.ref (ad 0)] σ (fX5_back σ) := by
  refine ctI_intro (own := "KinInTheHeapModel") (by decide +kernel) rfl [some (.ref (ad 0)), none] (Nat.le_of_ble_eq_true rfl) rfl ?_
  intro p e s m args below meth c A C hr hlk
  refine tr_aload_n C (i := 0) dX5_back_0 rfl rfl ?_
  refine tr_getI C (k := 35) (ci := 5) rfl rfl rfl inT5 rfl (by decide) w983 dX5_back_1 ?_
  refine tr_iconst C (v := -1) dX5_back_4 (by decide) ?_
  refine tr_icmp_ne C (tgt := 11) dX5_back_5 (by decide) (fun q16 => ?_) (fun q16 => ?_)
  · refine tr_bipush C (v := -3) dX5_back_8 (by decide) ?_
    exact tr_iret C hr hlk dX5_back_10
  · refine tr_iconst C (v := 0) dX5_back_11 (by decide) ?_
    refine tr_istore_n C (i := 1) (lv' := [some (.ref (ad 0)), some (.int 0)]) dX5_back_12 rfl (by decide) rfl ?_
    refine tr_loop (b := fX5_back_L13) (sg := fun v => v.1) (lw := fun v => [some (.ref (ad 0)), some (.int v.2)]) (sw := fun v => []) (fun ih13 IH13 v => ?_) 1000 (σ, 0)
    obtain ⟨σ13, y1_13⟩ := v
    refine tr_st (σ' := σ13) (lv' := [some (.ref (ad 0)), some (.int y1_13)]) (st' := []) rfl rfl rfl ?_
    refine tr_iload_n C (i := 1) dX5_back_13 rfl rfl ?_
    refine tr_bipush C (v := 36) dX5_back_14 (by decide) ?_
    refine tr_icmp_ge C (tgt := 37) dX5_back_16 (by decide) (fun q15 => ?_) (fun q15 => ?_)
    · refine tr_iconst C (v := 0) dX5_back_37 (by decide) ?_
      refine tr_istore_n C (i := 1) (lv' := [some (.ref (ad 0)), some (.int 0)]) dX5_back_38 rfl (by decide) rfl ?_
      refine tr_loop (b := fX5_back_L39) (sg := fun v => v.1) (lw := fun v => [some (.ref (ad 0)), some (.int v.2)]) (sw := fun v => []) (fun ih39 IH39 v => ?_) 1000 (σ13, 0)
      obtain ⟨σ39, y1_39⟩ := v
      refine tr_st (σ' := σ39) (lv' := [some (.ref (ad 0)), some (.int y1_39)]) (st' := []) rfl rfl rfl ?_
      refine tr_iload_n C (i := 1) dX5_back_39 rfl rfl ?_
      refine tr_bipush C (v := 8) dX5_back_40 (by decide) ?_
      have B75 : ∀ (σ75 : Mem), Tr p l e { frames := 0, cells := 0, slots := 0, locals := 0 } s m args below meth c g ad (shM g) A 2 (QI g ad (shM g) A below args s) (fX5_back_b75 σ75) σ75 75 [some (.ref (ad 0)), none] [] := by
        intro σ75
        refine tr_aload_n C (i := 0) dX5_back_75 rfl rfl ?_
        refine tr_aload_n C (i := 0) dX5_back_76 rfl rfl ?_
        refine tr_getI C (k := 35) (ci := 5) rfl rfl rfl inT5 rfl (by decide) w983 dX5_back_77 ?_
        refine tr_putI C (k := 13) (ci := 5) (σ' := putI σ75 0 13 (σ75.1 0 35)) rfl rfl rfl inT5 rfl (by decide) tyX5 tyX5_ok nmX5 rfl rfl w961 dX5_back_80 rfl ?_
        refine tr_stp (fun σw1 eσw1 => ?_)
        refine tr_aload_n C (i := 0) dX5_back_83 rfl rfl ?_
        refine tr_aload_n C (i := 0) dX5_back_84 rfl rfl ?_
        refine tr_getI C (k := 36) (ci := 5) rfl rfl rfl inT5 rfl (by decide) w984 dX5_back_85 ?_
        refine tr_putI C (k := 7) (ci := 5) (σ' := putI σw1 0 7 (σw1.1 0 36)) rfl rfl rfl inT5 rfl (by decide) tyX5 tyX5_ok nmX5 rfl rfl w955 dX5_back_88 rfl ?_
        refine tr_stp (fun σw2 eσw2 => ?_)
        refine tr_aload_n C (i := 0) dX5_back_91 rfl rfl ?_
        refine tr_aload_n C (i := 0) dX5_back_92 rfl rfl ?_
        refine tr_getI C (k := 37) (ci := 5) rfl rfl rfl inT5 rfl (by decide) w985 dX5_back_93 ?_
        refine tr_putI C (k := 8) (ci := 5) (σ' := putI σw2 0 8 (σw2.1 0 37)) rfl rfl rfl inT5 rfl (by decide) tyX5 tyX5_ok nmX5 rfl rfl w956 dX5_back_96 rfl ?_
        refine tr_stp (fun σw3 eσw3 => ?_)
        refine tr_aload_n C (i := 0) dX5_back_99 rfl rfl ?_
        refine tr_aload_n C (i := 0) dX5_back_100 rfl rfl ?_
        refine tr_getI C (k := 38) (ci := 5) rfl rfl rfl inT5 rfl (by decide) w986 dX5_back_101 ?_
        refine tr_putI C (k := 4) (ci := 5) (σ' := putI σw3 0 4 (σw3.1 0 38)) rfl rfl rfl inT5 rfl (by decide) tyX5 tyX5_ok nmX5 rfl rfl w952 dX5_back_104 rfl ?_
        refine tr_stp (fun σw4 eσw4 => ?_)
        refine tr_aload_n C (i := 0) dX5_back_107 rfl rfl ?_
        refine tr_getI C (k := 13) (ci := 5) rfl rfl rfl inT5 rfl (by decide) w961 dX5_back_108 ?_
        exact tr_iret C hr hlk dX5_back_111
      refine tr_icmp_ge C (tgt := 75) dX5_back_42 (by decide) (fun q11 => ?_) (fun q11 => ?_)
      · refine tr_mask [true, false] rfl ?_
        exact B75 σ39
      · refine tr_aload_n C (i := 0) dX5_back_45 rfl rfl ?_
        refine tr_getR C (k := 11) (ci := 5) rfl rfl rfl inT5 rfl (by decide) w959 dX5_back_46 ?_
        refine tr_iload_n C (i := 1) dX5_back_49 rfl rfl ?_
        refine tr_aload_n C (i := 0) dX5_back_50 rfl rfl ?_
        refine tr_getR C (k := 33) (ci := 5) rfl rfl rfl inT5 rfl (by decide) w981 dX5_back_51 ?_
        refine tr_iload_n C (i := 1) dX5_back_54 rfl rfl ?_
        refine tr_iald C (n := 8) rfl dX5_back_55 (fun h10 => ?_)
        refine tr_iast C (n := 8) (σ' := wr σ39 6 y1_39 (rd σ39 11 y1_39)) rfl dX5_back_56 rfl (fun h9 => ?_)
        refine tr_stp (fun σw5 eσw5 => ?_)
        refine tr_aload_n C (i := 0) dX5_back_57 rfl rfl ?_
        refine tr_getR C (k := 12) (ci := 5) rfl rfl rfl inT5 rfl (by decide) w960 dX5_back_58 ?_
        refine tr_iload_n C (i := 1) dX5_back_61 rfl rfl ?_
        refine tr_aload_n C (i := 0) dX5_back_62 rfl rfl ?_
        refine tr_getR C (k := 34) (ci := 5) rfl rfl rfl inT5 rfl (by decide) w982 dX5_back_63 ?_
        refine tr_iload_n C (i := 1) dX5_back_66 rfl rfl ?_
        refine tr_iald C (n := 8) rfl dX5_back_67 (fun h8 => ?_)
        refine tr_iast C (n := 8) (σ' := wr σw5 7 y1_39 (rd σw5 12 y1_39)) rfl dX5_back_68 rfl (fun h7 => ?_)
        refine tr_stp (fun σw6 eσw6 => ?_)
        refine tr_iinc C (i := 1) (d := 1) (lv' := [some (.ref (ad 0)), some (.int (y1_39 + 1))]) dX5_back_69 rfl (by decide) (by decide) rfl ?_
        refine tr_goto C (tgt := 39) dX5_back_72 (by decide) ?_
        exact IH39 (σw6, y1_39 + 1)
    · refine tr_aload_n C (i := 0) dX5_back_19 rfl rfl ?_
      refine tr_getR C (k := 9) (ci := 5) rfl rfl rfl inT5 rfl (by decide) w957 dX5_back_20 ?_
      refine tr_iload_n C (i := 1) dX5_back_23 rfl rfl ?_
      refine tr_aload_n C (i := 0) dX5_back_24 rfl rfl ?_
      refine tr_getR C (k := 32) (ci := 5) rfl rfl rfl inT5 rfl (by decide) w980 dX5_back_25 ?_
      refine tr_iload_n C (i := 1) dX5_back_28 rfl rfl ?_
      refine tr_iald C (n := 36) rfl dX5_back_29 (fun h14 => ?_)
      refine tr_iast C (n := 36) (σ' := wr σ13 4 y1_13 (rd σ13 10 y1_13)) rfl dX5_back_30 rfl (fun h13 => ?_)
      refine tr_stp (fun σw12 eσw12 => ?_)
      refine tr_iinc C (i := 1) (d := 1) (lv' := [some (.ref (ad 0)), some (.int (y1_13 + 1))]) dX5_back_31 rfl (by decide) (by decide) rfl ?_
      refine tr_goto C (tgt := 13) dX5_back_34 (by decide) ?_
      exact IH13 (σw12, y1_13 + 1)
def fX5_count_b40 (a1 : Int32) (σ : Mem) (y2_40 : Int32) : Option (Int32) :=
  if a1 = 0 then (
    some (σ.1 0 13)
  ) else (
    if a1 = 1 then (
      some y2_40
    ) else (
      if a1 = 2 then (
        some (σ.1 0 7)
      ) else (
        if a1 = 3 then (
          some (σ.1 0 3)
        ) else (
          if a1 = 4 then (
            some (σ.1 0 6)
          ) else (
            some (σ.1 0 4)
          )
        )
      )
    )
  )
def fX5_count_L19 (a1 : Int32) (σ : Mem) (ih19 : Int32 × Int32 → Option (Int32)) : Int32 × Int32 → Option (Int32) := fun v => match v with
  | (y2_19, y3_19) =>
    if 36 ≤ y3_19 then (
      fX5_count_b40 a1 σ y2_19
    ) else (
      gd (inB y3_19 36) (
        ih19 (y2_19 + (rd σ 4 y3_19), y3_19 + 1)
      )
    )
def fX5_count (a1 : Int32) (σ : Mem) : Option (Int32) :=
  bn1 (fX5_in a1.toInt64 0 5 σ) fun r1 => (
    if r1 = 0 then (
      some (-2)
    ) else (
      loopN (fX5_count_L19 a1 σ) 1000 (0, 0)
    )
  )
set_option maxHeartbeats 4000000 in
set_option maxRecDepth 100000 in
theorem kX5_count (l : Launch) (g : GG) (cs : CS) (ad : Nat → Nat) (a1 : Int32) (σ : Mem) : CtI l g cs ad (shM g) mX5_count (.code mX5_count cX5_count 4 (some .int)) { frames := 1, cells := 0, slots := 0, locals := 25 } [.ref (ad 0), .int a1] σ (pur (fX5_count a1 σ) σ) := by
  refine ctIP_intro (own := "KinInTheHeapModel") (by decide +kernel) rfl [some (.ref (ad 0)), some (.int a1), none, none] (Nat.le_of_ble_eq_true rfl) rfl ?_
  intro p e s m args below meth c A C hr hlk
  refine tr_iload_n C (i := 1) dX5_count_0 rfl rfl ?_
  refine tr_i2l C dX5_count_1 ?_
  refine tr_lconst C (v := 0) dX5_count_2 (by decide) ?_
  refine tr_ldc2 C (v := 5) w1216 dX5_count_3 ?_
  refine tr_cSIP C (av := [.long a1.toInt64, .long 0, .long 5]) (st := []) (kX5_in l g cs ad a1.toInt64 0 5 σ) mwX5_in w1084 ⟨rfl, rfl⟩ ⟨(Nat.le_of_ble_eq_true rfl), (Nat.le_of_ble_eq_true rfl)⟩ rfl rfl (Nat.le_of_ble_eq_true rfl) dX5_count_6 (fun r1 hr1 => ?_)
  refine tr_if_ne C (tgt := 15) dX5_count_9 (by decide) (fun q9 => ?_) (fun q9 => ?_)
  · refine tr_bipush C (v := -2) dX5_count_12 (by decide) ?_
    exact tr_iretP C hr hlk dX5_count_14
  · refine tr_iconst C (v := 0) dX5_count_15 (by decide) ?_
    refine tr_istore_n C (i := 2) (lv' := [some (.ref (ad 0)), some (.int a1), some (.int 0), none]) dX5_count_16 rfl (by decide) rfl ?_
    refine tr_iconst C (v := 0) dX5_count_17 (by decide) ?_
    refine tr_istore_n C (i := 3) (lv' := [some (.ref (ad 0)), some (.int a1), some (.int 0), some (.int 0)]) dX5_count_18 rfl (by decide) rfl ?_
    refine tr_loop (b := fX5_count_L19 a1 σ) (sg := fun v => σ) (lw := fun v => [some (.ref (ad 0)), some (.int a1), some (.int v.1), some (.int v.2)]) (sw := fun v => []) (fun ih19 IH19 v => ?_) 1000 (0, 0)
    obtain ⟨y2_19, y3_19⟩ := v
    refine tr_st (σ' := σ) (lv' := [some (.ref (ad 0)), some (.int a1), some (.int y2_19), some (.int y3_19)]) (st' := []) rfl rfl rfl ?_
    refine tr_iload_n C (i := 3) dX5_count_19 rfl rfl ?_
    refine tr_bipush C (v := 36) dX5_count_20 (by decide) ?_
    have B40 : ∀ (y2_40 : Int32), Tr p l e { frames := 1, cells := 0, slots := 0, locals := 25 } s m args below meth c g ad (shM g) A 4 (QP g ad (shM g) A below args s σ) (fX5_count_b40 a1 σ y2_40) σ 40 [some (.ref (ad 0)), some (.int a1), some (.int y2_40), none] [] := by
      intro y2_40
      refine tr_iload_n C (i := 1) dX5_count_40 rfl rfl ?_
      refine tr_if_ne C (tgt := 51) dX5_count_41 (by decide) (fun q6 => ?_) (fun q6 => ?_)
      · refine tr_aload_n C (i := 0) dX5_count_44 rfl rfl ?_
        refine tr_getI C (k := 13) (ci := 5) rfl rfl rfl inT5 rfl (by decide) w961 dX5_count_45 ?_
        refine tr_goto C (tgt := 100) dX5_count_48 (by decide) ?_
        exact tr_iretP C hr hlk dX5_count_100
      · refine tr_iload_n C (i := 1) dX5_count_51 rfl rfl ?_
        refine tr_iconst C (v := 1) dX5_count_52 (by decide) ?_
        refine tr_icmp_ne C (tgt := 60) dX5_count_53 (by decide) (fun q5 => ?_) (fun q5 => ?_)
        · refine tr_iload_n C (i := 2) dX5_count_56 rfl rfl ?_
          refine tr_goto C (tgt := 100) dX5_count_57 (by decide) ?_
          exact tr_iretP C hr hlk dX5_count_100
        · refine tr_iload_n C (i := 1) dX5_count_60 rfl rfl ?_
          refine tr_iconst C (v := 2) dX5_count_61 (by decide) ?_
          refine tr_icmp_ne C (tgt := 72) dX5_count_62 (by decide) (fun q4 => ?_) (fun q4 => ?_)
          · refine tr_aload_n C (i := 0) dX5_count_65 rfl rfl ?_
            refine tr_getI C (k := 7) (ci := 5) rfl rfl rfl inT5 rfl (by decide) w955 dX5_count_66 ?_
            refine tr_goto C (tgt := 100) dX5_count_69 (by decide) ?_
            exact tr_iretP C hr hlk dX5_count_100
          · refine tr_iload_n C (i := 1) dX5_count_72 rfl rfl ?_
            refine tr_iconst C (v := 3) dX5_count_73 (by decide) ?_
            refine tr_icmp_ne C (tgt := 84) dX5_count_74 (by decide) (fun q3 => ?_) (fun q3 => ?_)
            · refine tr_aload_n C (i := 0) dX5_count_77 rfl rfl ?_
              refine tr_getI C (k := 3) (ci := 5) rfl rfl rfl inT5 rfl (by decide) w951 dX5_count_78 ?_
              refine tr_goto C (tgt := 100) dX5_count_81 (by decide) ?_
              exact tr_iretP C hr hlk dX5_count_100
            · refine tr_iload_n C (i := 1) dX5_count_84 rfl rfl ?_
              refine tr_iconst C (v := 4) dX5_count_85 (by decide) ?_
              refine tr_icmp_ne C (tgt := 96) dX5_count_86 (by decide) (fun q2 => ?_) (fun q2 => ?_)
              · refine tr_aload_n C (i := 0) dX5_count_89 rfl rfl ?_
                refine tr_getI C (k := 6) (ci := 5) rfl rfl rfl inT5 rfl (by decide) w954 dX5_count_90 ?_
                refine tr_goto C (tgt := 100) dX5_count_93 (by decide) ?_
                exact tr_iretP C hr hlk dX5_count_100
              · refine tr_aload_n C (i := 0) dX5_count_96 rfl rfl ?_
                refine tr_getI C (k := 4) (ci := 5) rfl rfl rfl inT5 rfl (by decide) w952 dX5_count_97 ?_
                exact tr_iretP C hr hlk dX5_count_100
    refine tr_icmp_ge C (tgt := 40) dX5_count_22 (by decide) (fun q8 => ?_) (fun q8 => ?_)
    · refine tr_mask [true, true, true, false] rfl ?_
      exact B40 y2_19
    · refine tr_iload_n C (i := 2) dX5_count_25 rfl rfl ?_
      refine tr_aload_n C (i := 0) dX5_count_26 rfl rfl ?_
      refine tr_getR C (k := 9) (ci := 5) rfl rfl rfl inT5 rfl (by decide) w957 dX5_count_27 ?_
      refine tr_iload_n C (i := 3) dX5_count_30 rfl rfl ?_
      refine tr_iald C (n := 36) rfl dX5_count_31 (fun h7 => ?_)
      refine tr_iadd C dX5_count_32 ?_
      refine tr_istore_n C (i := 2) (lv' := [some (.ref (ad 0)), some (.int a1), some (.int (y2_19 + (rd σ 4 y3_19))), some (.int y3_19)]) dX5_count_33 rfl (by decide) rfl ?_
      refine tr_iinc C (i := 3) (d := 1) (lv' := [some (.ref (ad 0)), some (.int a1), some (.int (y2_19 + (rd σ 4 y3_19))), some (.int (y3_19 + 1))]) dX5_count_34 rfl (by decide) (by decide) rfl ?_
      refine tr_goto C (tgt := 19) dX5_count_37 (by decide) ?_
      exact IH19 (y2_19 + (rd σ 4 y3_19), y3_19 + 1)
def fX5_cell (a1 : Int32) (a2 : Int32) (a3 : Int32) (σ : Mem) : Option (Int32 × Mem) :=
  bn1 (fX5_isSheet a1 σ) fun r1 => (
    if r1 = 0 then (
      some (-2, σ)
    ) else (
      gd (inB a1 4) (
        if (rd σ 13 a1) = 0 then (
          some (-11, σ)
        ) else (
          gd (inB a1 4) (
            bn1 (fX5_in a2.toInt64 0 (((rd σ 15 a1) - 1).toInt64) σ) fun r2 => (
              if r2 = 0 then (
                some (-12, σ)
              ) else (
                gd (inB a1 4) (
                  if (rd σ 14 a1) = 0 then (
                    gd (inB ((40 * a1) + a2) 160) (stp (wr σ 16 ((40 * a1) + a2) a3.toInt8.toInt32) fun σw9 => (
                      some (1, σw9)
                    ))
                  ) else (
                    gd (inB a1 4) (
                      if (rd σ 14 a1) = 1 then (
                        gd (inB ((40 * a1) + a2) 160) (stp (wr σ 16 ((40 * a1) + a2) a3.toInt16.toInt32) fun σw5 => (
                          some (1, σw5)
                        ))
                      ) else (
                        gd (inB ((40 * a1) + a2) 160) (stp (wr σ 16 ((40 * a1) + a2) a3) fun σw3 => (
                          some (1, σw3)
                        ))
                      )
                    )
                  )
                )
              )
            )
          )
        )
      )
    )
  )
set_option maxHeartbeats 4000000 in
set_option maxRecDepth 100000 in
theorem kX5_cell (l : Launch) (g : GG) (cs : CS) (ad : Nat → Nat) (a1 : Int32) (a2 : Int32) (a3 : Int32) (σ : Mem) : CtI l g cs ad (shM g) mX5_cell (.code mX5_cell cX5_cell 4 (some .int)) { frames := 2, cells := 0, slots := 0, locals := 45 } [.ref (ad 0), .int a1, .int a2, .int a3] σ (fX5_cell a1 a2 a3 σ) := by
  refine ctI_intro (own := "KinInTheHeapModel") (by decide +kernel) rfl [some (.ref (ad 0)), some (.int a1), some (.int a2), some (.int a3)] (Nat.le_of_ble_eq_true rfl) rfl ?_
  intro p e s m args below meth c A C hr hlk
  refine tr_iload_n C (i := 1) dX5_cell_0 rfl rfl ?_
  refine tr_cSIP C (av := [.int a1]) (st := []) (kX5_isSheet l g cs ad a1 σ) mwX5_isSheet w1271 ⟨rfl, rfl⟩ ⟨(Nat.le_of_ble_eq_true rfl), (Nat.le_of_ble_eq_true rfl)⟩ rfl rfl (Nat.le_of_ble_eq_true rfl) dX5_cell_1 (fun r1 hr1 => ?_)
  refine tr_if_ne C (tgt := 10) dX5_cell_4 (by decide) (fun q17 => ?_) (fun q17 => ?_)
  · refine tr_bipush C (v := -2) dX5_cell_7 (by decide) ?_
    exact tr_iret C hr hlk dX5_cell_9
  · refine tr_aload_n C (i := 0) dX5_cell_10 rfl rfl ?_
    refine tr_getR C (k := 39) (ci := 5) rfl rfl rfl inT5 rfl (by decide) w987 dX5_cell_11 ?_
    refine tr_iload_n C (i := 1) dX5_cell_14 rfl rfl ?_
    refine tr_zald C (n := 4) rfl dX5_cell_15 (fun h16 => ?_)
    refine tr_if_ne C (tgt := 22) dX5_cell_16 (by decide) (fun q15 => ?_) (fun q15 => ?_)
    · refine tr_bipush C (v := -11) dX5_cell_19 (by decide) ?_
      exact tr_iret C hr hlk dX5_cell_21
    · refine tr_iload_n C (i := 2) dX5_cell_22 rfl rfl ?_
      refine tr_i2l C dX5_cell_23 ?_
      refine tr_lconst C (v := 0) dX5_cell_24 (by decide) ?_
      refine tr_aload_n C (i := 0) dX5_cell_25 rfl rfl ?_
      refine tr_getR C (k := 41) (ci := 5) rfl rfl rfl inT5 rfl (by decide) w989 dX5_cell_26 ?_
      refine tr_iload_n C (i := 1) dX5_cell_29 rfl rfl ?_
      refine tr_iald C (n := 4) rfl dX5_cell_30 (fun h14 => ?_)
      refine tr_iconst C (v := 1) dX5_cell_31 (by decide) ?_
      refine tr_isub C dX5_cell_32 ?_
      refine tr_i2l C dX5_cell_33 ?_
      refine tr_cSIP C (av := [.long a2.toInt64, .long 0, .long (((rd σ 15 a1) - 1).toInt64)]) (st := []) (kX5_in l g cs ad a2.toInt64 0 (((rd σ 15 a1) - 1).toInt64) σ) mwX5_in w1084 ⟨rfl, rfl⟩ ⟨(Nat.le_of_ble_eq_true rfl), (Nat.le_of_ble_eq_true rfl)⟩ rfl rfl (Nat.le_of_ble_eq_true rfl) dX5_cell_34 (fun r2 hr2 => ?_)
      refine tr_if_ne C (tgt := 43) dX5_cell_37 (by decide) (fun q13 => ?_) (fun q13 => ?_)
      · refine tr_bipush C (v := -12) dX5_cell_40 (by decide) ?_
        exact tr_iret C hr hlk dX5_cell_42
      · refine tr_aload_n C (i := 0) dX5_cell_43 rfl rfl ?_
        refine tr_getR C (k := 42) (ci := 5) rfl rfl rfl inT5 rfl (by decide) w990 dX5_cell_44 ?_
        refine tr_bipush C (v := 40) dX5_cell_47 (by decide) ?_
        refine tr_iload_n C (i := 1) dX5_cell_49 rfl rfl ?_
        refine tr_imul C dX5_cell_50 ?_
        refine tr_iload_n C (i := 2) dX5_cell_51 rfl rfl ?_
        refine tr_iadd C dX5_cell_52 ?_
        refine tr_aload_n C (i := 0) dX5_cell_53 rfl rfl ?_
        refine tr_getR C (k := 40) (ci := 5) rfl rfl rfl inT5 rfl (by decide) w988 dX5_cell_54 ?_
        refine tr_iload_n C (i := 1) dX5_cell_57 rfl rfl ?_
        refine tr_iald C (n := 4) rfl dX5_cell_58 (fun h12 => ?_)
        refine tr_if_ne C (tgt := 67) dX5_cell_59 (by decide) (fun q11 => ?_) (fun q11 => ?_)
        · refine tr_iload_n C (i := 3) dX5_cell_62 rfl rfl ?_
          refine tr_i2b C dX5_cell_63 ?_
          refine tr_goto C (tgt := 83) dX5_cell_64 (by decide) ?_
          refine tr_iast C (n := 160) (σ' := wr σ 16 ((40 * a1) + a2) a3.toInt8.toInt32) rfl dX5_cell_83 rfl (fun h10 => ?_)
          refine tr_stp (fun σw9 eσw9 => ?_)
          refine tr_iconst C (v := 1) dX5_cell_84 (by decide) ?_
          exact tr_iret C hr hlk dX5_cell_85
        · refine tr_aload_n C (i := 0) dX5_cell_67 rfl rfl ?_
          refine tr_getR C (k := 40) (ci := 5) rfl rfl rfl inT5 rfl (by decide) w988 dX5_cell_68 ?_
          refine tr_iload_n C (i := 1) dX5_cell_71 rfl rfl ?_
          refine tr_iald C (n := 4) rfl dX5_cell_72 (fun h8 => ?_)
          refine tr_iconst C (v := 1) dX5_cell_73 (by decide) ?_
          refine tr_icmp_ne C (tgt := 82) dX5_cell_74 (by decide) (fun q7 => ?_) (fun q7 => ?_)
          · refine tr_iload_n C (i := 3) dX5_cell_77 rfl rfl ?_
            refine tr_i2s C dX5_cell_78 ?_
            refine tr_goto C (tgt := 83) dX5_cell_79 (by decide) ?_
            refine tr_iast C (n := 160) (σ' := wr σ 16 ((40 * a1) + a2) a3.toInt16.toInt32) rfl dX5_cell_83 rfl (fun h6 => ?_)
            refine tr_stp (fun σw5 eσw5 => ?_)
            refine tr_iconst C (v := 1) dX5_cell_84 (by decide) ?_
            exact tr_iret C hr hlk dX5_cell_85
          · refine tr_iload_n C (i := 3) dX5_cell_82 rfl rfl ?_
            refine tr_iast C (n := 160) (σ' := wr σ 16 ((40 * a1) + a2) a3) rfl dX5_cell_83 rfl (fun h4 => ?_)
            refine tr_stp (fun σw3 eσw3 => ?_)
            refine tr_iconst C (v := 1) dX5_cell_84 (by decide) ?_
            exact tr_iret C hr hlk dX5_cell_85
def fX5_copy_b145 (a1 : Int32) (a2 : Int32) (a3 : Int32) (a4 : Int32) (a5 : Int32) (ih121 : Mem × Int32 × Int32 → Option (Int32 × Mem)) (σ145 : Mem) (y6_145 : Int32) (y7_145 : Int32) (z0_145 : Int32) : Option (Int32 × Mem) :=
  gd (inB (((40 * a1) + a2) + z0_145) 160) (
    gd (inB (((40 * a3) + a4) + z0_145) 160) (stp (wr σ145 16 (((40 * a3) + a4) + z0_145) (rd σ145 16 (((40 * a1) + a2) + z0_145))) fun σw3 => (
      ih121 (σw3, y6_145, y7_145 + 1)
    ))
  )
def fX5_copy_L121 (a1 : Int32) (a2 : Int32) (a3 : Int32) (a4 : Int32) (a5 : Int32) (ih121 : Mem × Int32 × Int32 → Option (Int32 × Mem)) : Mem × Int32 × Int32 → Option (Int32 × Mem) := fun v => match v with
  | (σ121, y6_121, y7_121) =>
    if a5 ≤ y7_121 then (
      some (a5, σ121)
    ) else (
      if y6_121 = 0 then (
        fX5_copy_b145 a1 a2 a3 a4 a5 ih121 σ121 y6_121 y7_121 y7_121
      ) else (
        fX5_copy_b145 a1 a2 a3 a4 a5 ih121 σ121 y6_121 y7_121 ((a5 - 1) - y7_121)
      )
    )
def fX5_copy (a1 : Int32) (a2 : Int32) (a3 : Int32) (a4 : Int32) (a5 : Int32) (σ : Mem) : Option (Int32 × Mem) :=
  bn1 (fX5_isSheet a1 σ) fun r1 => (
    if r1 = 0 then (
      some (-2, σ)
    ) else (
      bn1 (fX5_isSheet a3 σ) fun r2 => (
        if r2 = 0 then (
          some (-2, σ)
        ) else (
          gd (inB a1 4) (
            if (rd σ 13 a1) = 0 then (
              some (-11, σ)
            ) else (
              gd (inB a3 4) (
                if (rd σ 13 a3) = 0 then (
                  some (-11, σ)
                ) else (
                  gd (inB a1 4) (
                    gd (inB a3 4) (
                      if (rd σ 14 a1) = (rd σ 14 a3) then (
                        if a5 < 0 then (
                          some (-12, σ)
                        ) else (
                          if a2 < 0 then (
                            some (-12, σ)
                          ) else (
                            if a4 < 0 then (
                              some (-12, σ)
                            ) else (
                              gd (inB a1 4) (
                                if ((rd σ 15 a1) - a5) < a2 then (
                                  some (-12, σ)
                                ) else (
                                  gd (inB a3 4) (
                                    if a4 ≤ ((rd σ 15 a3) - a5) then (
                                      if a1 = a3 then (
                                        if a4 ≤ a2 then (
                                          loopN (fX5_copy_L121 a1 a2 a3 a4 a5) 1000 (σ, 0, 0)
                                        ) else (
                                          loopN (fX5_copy_L121 a1 a2 a3 a4 a5) 1000 (σ, 1, 0)
                                        )
                                      ) else (
                                        loopN (fX5_copy_L121 a1 a2 a3 a4 a5) 1000 (σ, 0, 0)
                                      )
                                    ) else (
                                      some (-12, σ)
                                    )
                                  )
                                )
                              )
                            )
                          )
                        )
                      ) else (
                        some (-13, σ)
                      )
                    )
                  )
                )
              )
            )
          )
        )
      )
    )
  )
set_option maxHeartbeats 4000000 in
set_option maxRecDepth 100000 in
theorem kX5_copy (l : Launch) (g : GG) (cs : CS) (ad : Nat → Nat) (a1 : Int32) (a2 : Int32) (a3 : Int32) (a4 : Int32) (a5 : Int32) (σ : Mem) : CtI l g cs ad (shM g) mX5_copy (.code mX5_copy cX5_copy 9 (some .int)) { frames := 2, cells := 0, slots := 0, locals := 45 } [.ref (ad 0), .int a1, .int a2, .int a3, .int a4, .int a5] σ (fX5_copy a1 a2 a3 a4 a5 σ) := by
  refine ctI_intro (own := "KinInTheHeapModel") (by decide +kernel) rfl [some (.ref (ad 0)), some (.int a1), some (.int a2), some (.int a3), some (.int a4), some (.int a5), none, none, none] (Nat.le_of_ble_eq_true rfl) rfl ?_
  intro p e s m args below meth c A C hr hlk
  refine tr_iload_n C (i := 1) dX5_copy_0 rfl rfl ?_
  refine tr_cSIP C (av := [.int a1]) (st := []) (kX5_isSheet l g cs ad a1 σ) mwX5_isSheet w1271 ⟨rfl, rfl⟩ ⟨(Nat.le_of_ble_eq_true rfl), (Nat.le_of_ble_eq_true rfl)⟩ rfl rfl (Nat.le_of_ble_eq_true rfl) dX5_copy_1 (fun r1 hr1 => ?_)
  refine tr_if_eq C (tgt := 14) dX5_copy_4 (by decide) (fun q29 => ?_) (fun q29 => ?_)
  · refine tr_bipush C (v := -2) dX5_copy_14 (by decide) ?_
    exact tr_iret C hr hlk dX5_copy_16
  · refine tr_iload_n C (i := 3) dX5_copy_7 rfl rfl ?_
    refine tr_cSIP C (av := [.int a3]) (st := []) (kX5_isSheet l g cs ad a3 σ) mwX5_isSheet w1271 ⟨rfl, rfl⟩ ⟨(Nat.le_of_ble_eq_true rfl), (Nat.le_of_ble_eq_true rfl)⟩ rfl rfl (Nat.le_of_ble_eq_true rfl) dX5_copy_8 (fun r2 hr2 => ?_)
    refine tr_if_ne C (tgt := 17) dX5_copy_11 (by decide) (fun q28 => ?_) (fun q28 => ?_)
    · refine tr_bipush C (v := -2) dX5_copy_14 (by decide) ?_
      exact tr_iret C hr hlk dX5_copy_16
    · refine tr_aload_n C (i := 0) dX5_copy_17 rfl rfl ?_
      refine tr_getR C (k := 39) (ci := 5) rfl rfl rfl inT5 rfl (by decide) w987 dX5_copy_18 ?_
      refine tr_iload_n C (i := 1) dX5_copy_21 rfl rfl ?_
      refine tr_zald C (n := 4) rfl dX5_copy_22 (fun h27 => ?_)
      refine tr_if_eq C (tgt := 35) dX5_copy_23 (by decide) (fun q26 => ?_) (fun q26 => ?_)
      · refine tr_bipush C (v := -11) dX5_copy_35 (by decide) ?_
        exact tr_iret C hr hlk dX5_copy_37
      · refine tr_aload_n C (i := 0) dX5_copy_26 rfl rfl ?_
        refine tr_getR C (k := 39) (ci := 5) rfl rfl rfl inT5 rfl (by decide) w987 dX5_copy_27 ?_
        refine tr_iload_n C (i := 3) dX5_copy_30 rfl rfl ?_
        refine tr_zald C (n := 4) rfl dX5_copy_31 (fun h25 => ?_)
        refine tr_if_ne C (tgt := 38) dX5_copy_32 (by decide) (fun q24 => ?_) (fun q24 => ?_)
        · refine tr_bipush C (v := -11) dX5_copy_35 (by decide) ?_
          exact tr_iret C hr hlk dX5_copy_37
        · refine tr_aload_n C (i := 0) dX5_copy_38 rfl rfl ?_
          refine tr_getR C (k := 40) (ci := 5) rfl rfl rfl inT5 rfl (by decide) w988 dX5_copy_39 ?_
          refine tr_iload_n C (i := 1) dX5_copy_42 rfl rfl ?_
          refine tr_iald C (n := 4) rfl dX5_copy_43 (fun h23 => ?_)
          refine tr_aload_n C (i := 0) dX5_copy_44 rfl rfl ?_
          refine tr_getR C (k := 40) (ci := 5) rfl rfl rfl inT5 rfl (by decide) w988 dX5_copy_45 ?_
          refine tr_iload_n C (i := 3) dX5_copy_48 rfl rfl ?_
          refine tr_iald C (n := 4) rfl dX5_copy_49 (fun h22 => ?_)
          refine tr_icmp_eq C (tgt := 56) dX5_copy_50 (by decide) (fun q21 => ?_) (fun q21 => ?_)
          · refine tr_iload C (i := 5) dX5_copy_56 rfl ?_
            refine tr_if_lt C (tgt := 97) dX5_copy_58 (by decide) (fun q20 => ?_) (fun q20 => ?_)
            · refine tr_bipush C (v := -12) dX5_copy_97 (by decide) ?_
              exact tr_iret C hr hlk dX5_copy_99
            · refine tr_iload_n C (i := 2) dX5_copy_61 rfl rfl ?_
              refine tr_if_lt C (tgt := 97) dX5_copy_62 (by decide) (fun q19 => ?_) (fun q19 => ?_)
              · refine tr_bipush C (v := -12) dX5_copy_97 (by decide) ?_
                exact tr_iret C hr hlk dX5_copy_99
              · refine tr_iload C (i := 4) dX5_copy_65 rfl ?_
                refine tr_if_lt C (tgt := 97) dX5_copy_67 (by decide) (fun q18 => ?_) (fun q18 => ?_)
                · refine tr_bipush C (v := -12) dX5_copy_97 (by decide) ?_
                  exact tr_iret C hr hlk dX5_copy_99
                · refine tr_iload_n C (i := 2) dX5_copy_70 rfl rfl ?_
                  refine tr_aload_n C (i := 0) dX5_copy_71 rfl rfl ?_
                  refine tr_getR C (k := 41) (ci := 5) rfl rfl rfl inT5 rfl (by decide) w989 dX5_copy_72 ?_
                  refine tr_iload_n C (i := 1) dX5_copy_75 rfl rfl ?_
                  refine tr_iald C (n := 4) rfl dX5_copy_76 (fun h17 => ?_)
                  refine tr_iload C (i := 5) dX5_copy_77 rfl ?_
                  refine tr_isub C dX5_copy_79 ?_
                  refine tr_icmp_gt C (tgt := 97) dX5_copy_80 (by decide) (fun q16 => ?_) (fun q16 => ?_)
                  · refine tr_bipush C (v := -12) dX5_copy_97 (by decide) ?_
                    exact tr_iret C hr hlk dX5_copy_99
                  · refine tr_iload C (i := 4) dX5_copy_83 rfl ?_
                    refine tr_aload_n C (i := 0) dX5_copy_85 rfl rfl ?_
                    refine tr_getR C (k := 41) (ci := 5) rfl rfl rfl inT5 rfl (by decide) w989 dX5_copy_86 ?_
                    refine tr_iload_n C (i := 3) dX5_copy_89 rfl rfl ?_
                    refine tr_iald C (n := 4) rfl dX5_copy_90 (fun h15 => ?_)
                    refine tr_iload C (i := 5) dX5_copy_91 rfl ?_
                    refine tr_isub C dX5_copy_93 ?_
                    refine tr_icmp_le C (tgt := 100) dX5_copy_94 (by decide) (fun q14 => ?_) (fun q14 => ?_)
                    · refine tr_iload_n C (i := 1) dX5_copy_100 rfl rfl ?_
                      refine tr_iload_n C (i := 3) dX5_copy_101 rfl rfl ?_
                      refine tr_icmp_ne C (tgt := 115) dX5_copy_102 (by decide) (fun q13 => ?_) (fun q13 => ?_)
                      · refine tr_iload_n C (i := 2) dX5_copy_105 rfl rfl ?_
                        refine tr_iload C (i := 4) dX5_copy_106 rfl ?_
                        refine tr_icmp_ge C (tgt := 115) dX5_copy_108 (by decide) (fun q12 => ?_) (fun q12 => ?_)
                        · refine tr_iconst C (v := 0) dX5_copy_115 (by decide) ?_
                          refine tr_istore C (i := 6) (lv' := [some (.ref (ad 0)), some (.int a1), some (.int a2), some (.int a3), some (.int a4), some (.int a5), some (.int 0), none, none]) dX5_copy_116 (by decide) rfl ?_
                          refine tr_iconst C (v := 0) dX5_copy_118 (by decide) ?_
                          refine tr_istore C (i := 7) (lv' := [some (.ref (ad 0)), some (.int a1), some (.int a2), some (.int a3), some (.int a4), some (.int a5), some (.int 0), some (.int 0), none]) dX5_copy_119 (by decide) rfl ?_
                          refine tr_loop (b := fX5_copy_L121 a1 a2 a3 a4 a5) (sg := fun v => v.1) (lw := fun v => [some (.ref (ad 0)), some (.int a1), some (.int a2), some (.int a3), some (.int a4), some (.int a5), some (.int v.2.1), some (.int v.2.2), none]) (sw := fun v => []) (fun ih121 IH121 v => ?_) 1000 (σ, 0, 0)
                          obtain ⟨σ121, y6_121, y7_121⟩ := v
                          refine tr_st (σ' := σ121) (lv' := [some (.ref (ad 0)), some (.int a1), some (.int a2), some (.int a3), some (.int a4), some (.int a5), some (.int y6_121), some (.int y7_121), none]) (st' := []) rfl rfl rfl ?_
                          refine tr_iload C (i := 7) dX5_copy_121 rfl ?_
                          refine tr_iload C (i := 5) dX5_copy_123 rfl ?_
                          refine tr_icmp_ge C (tgt := 182) dX5_copy_125 (by decide) (fun q9 => ?_) (fun q9 => ?_)
                          · refine tr_iload C (i := 5) dX5_copy_182 rfl ?_
                            exact tr_iret C hr hlk dX5_copy_184
                          · refine tr_iload C (i := 6) dX5_copy_128 rfl ?_
                            have B145 : ∀ (σ145 : Mem) (y6_145 : Int32) (y7_145 : Int32) (z0_145 : Int32), Tr p l e { frames := 2, cells := 0, slots := 0, locals := 45 } s m args below meth c g ad (shM g) A 9 (QI g ad (shM g) A below args s) (fX5_copy_b145 a1 a2 a3 a4 a5 ih121 σ145 y6_145 y7_145 z0_145) σ145 145 [some (.ref (ad 0)), some (.int a1), some (.int a2), some (.int a3), some (.int a4), some (.int a5), some (.int y6_145), some (.int y7_145), none] [.int z0_145] := by
                              intro σ145 y6_145 y7_145 z0_145
                              refine tr_istore C (i := 8) (lv' := [some (.ref (ad 0)), some (.int a1), some (.int a2), some (.int a3), some (.int a4), some (.int a5), some (.int y6_145), some (.int y7_145), some (.int z0_145)]) dX5_copy_145 (by decide) rfl ?_
                              refine tr_aload_n C (i := 0) dX5_copy_147 rfl rfl ?_
                              refine tr_getR C (k := 42) (ci := 5) rfl rfl rfl inT5 rfl (by decide) w990 dX5_copy_148 ?_
                              refine tr_bipush C (v := 40) dX5_copy_151 (by decide) ?_
                              refine tr_iload_n C (i := 3) dX5_copy_153 rfl rfl ?_
                              refine tr_imul C dX5_copy_154 ?_
                              refine tr_iload C (i := 4) dX5_copy_155 rfl ?_
                              refine tr_iadd C dX5_copy_157 ?_
                              refine tr_iload C (i := 8) dX5_copy_158 rfl ?_
                              refine tr_iadd C dX5_copy_160 ?_
                              refine tr_aload_n C (i := 0) dX5_copy_161 rfl rfl ?_
                              refine tr_getR C (k := 42) (ci := 5) rfl rfl rfl inT5 rfl (by decide) w990 dX5_copy_162 ?_
                              refine tr_bipush C (v := 40) dX5_copy_165 (by decide) ?_
                              refine tr_iload_n C (i := 1) dX5_copy_167 rfl rfl ?_
                              refine tr_imul C dX5_copy_168 ?_
                              refine tr_iload_n C (i := 2) dX5_copy_169 rfl rfl ?_
                              refine tr_iadd C dX5_copy_170 ?_
                              refine tr_iload C (i := 8) dX5_copy_171 rfl ?_
                              refine tr_iadd C dX5_copy_173 ?_
                              refine tr_iald C (n := 160) rfl dX5_copy_174 (fun h5 => ?_)
                              refine tr_iast C (n := 160) (σ' := wr σ145 16 (((40 * a3) + a4) + z0_145) (rd σ145 16 (((40 * a1) + a2) + z0_145))) rfl dX5_copy_175 rfl (fun h4 => ?_)
                              refine tr_stp (fun σw3 eσw3 => ?_)
                              refine tr_iinc C (i := 7) (d := 1) (lv' := [some (.ref (ad 0)), some (.int a1), some (.int a2), some (.int a3), some (.int a4), some (.int a5), some (.int y6_145), some (.int (y7_145 + 1)), some (.int z0_145)]) dX5_copy_176 rfl (by decide) (by decide) rfl ?_
                              refine tr_goto C (tgt := 121) dX5_copy_179 (by decide) ?_
                              refine tr_mask [true, true, true, true, true, true, true, true, false] rfl ?_
                              exact IH121 (σw3, y6_145, y7_145 + 1)
                            refine tr_if_eq C (tgt := 143) dX5_copy_130 (by decide) (fun q8 => ?_) (fun q8 => ?_)
                            · refine tr_iload C (i := 7) dX5_copy_143 rfl ?_
                              exact B145 σ121 y6_121 y7_121 y7_121
                            · refine tr_iload C (i := 5) dX5_copy_133 rfl ?_
                              refine tr_iconst C (v := 1) dX5_copy_135 (by decide) ?_
                              refine tr_isub C dX5_copy_136 ?_
                              refine tr_iload C (i := 7) dX5_copy_137 rfl ?_
                              refine tr_isub C dX5_copy_139 ?_
                              refine tr_goto C (tgt := 145) dX5_copy_140 (by decide) ?_
                              exact B145 σ121 y6_121 y7_121 ((a5 - 1) - y7_121)
                        · refine tr_iconst C (v := 1) dX5_copy_111 (by decide) ?_
                          refine tr_goto C (tgt := 116) dX5_copy_112 (by decide) ?_
                          refine tr_istore C (i := 6) (lv' := [some (.ref (ad 0)), some (.int a1), some (.int a2), some (.int a3), some (.int a4), some (.int a5), some (.int 1), none, none]) dX5_copy_116 (by decide) rfl ?_
                          refine tr_iconst C (v := 0) dX5_copy_118 (by decide) ?_
                          refine tr_istore C (i := 7) (lv' := [some (.ref (ad 0)), some (.int a1), some (.int a2), some (.int a3), some (.int a4), some (.int a5), some (.int 1), some (.int 0), none]) dX5_copy_119 (by decide) rfl ?_
                          refine tr_loop (b := fX5_copy_L121 a1 a2 a3 a4 a5) (sg := fun v => v.1) (lw := fun v => [some (.ref (ad 0)), some (.int a1), some (.int a2), some (.int a3), some (.int a4), some (.int a5), some (.int v.2.1), some (.int v.2.2), none]) (sw := fun v => []) (fun ih121 IH121 v => ?_) 1000 (σ, 1, 0)
                          obtain ⟨σ121, y6_121, y7_121⟩ := v
                          refine tr_st (σ' := σ121) (lv' := [some (.ref (ad 0)), some (.int a1), some (.int a2), some (.int a3), some (.int a4), some (.int a5), some (.int y6_121), some (.int y7_121), none]) (st' := []) rfl rfl rfl ?_
                          refine tr_iload C (i := 7) dX5_copy_121 rfl ?_
                          refine tr_iload C (i := 5) dX5_copy_123 rfl ?_
                          refine tr_icmp_ge C (tgt := 182) dX5_copy_125 (by decide) (fun q11 => ?_) (fun q11 => ?_)
                          · refine tr_iload C (i := 5) dX5_copy_182 rfl ?_
                            exact tr_iret C hr hlk dX5_copy_184
                          · refine tr_iload C (i := 6) dX5_copy_128 rfl ?_
                            have B145 : ∀ (σ145 : Mem) (y6_145 : Int32) (y7_145 : Int32) (z0_145 : Int32), Tr p l e { frames := 2, cells := 0, slots := 0, locals := 45 } s m args below meth c g ad (shM g) A 9 (QI g ad (shM g) A below args s) (fX5_copy_b145 a1 a2 a3 a4 a5 ih121 σ145 y6_145 y7_145 z0_145) σ145 145 [some (.ref (ad 0)), some (.int a1), some (.int a2), some (.int a3), some (.int a4), some (.int a5), some (.int y6_145), some (.int y7_145), none] [.int z0_145] := by
                              intro σ145 y6_145 y7_145 z0_145
                              refine tr_istore C (i := 8) (lv' := [some (.ref (ad 0)), some (.int a1), some (.int a2), some (.int a3), some (.int a4), some (.int a5), some (.int y6_145), some (.int y7_145), some (.int z0_145)]) dX5_copy_145 (by decide) rfl ?_
                              refine tr_aload_n C (i := 0) dX5_copy_147 rfl rfl ?_
                              refine tr_getR C (k := 42) (ci := 5) rfl rfl rfl inT5 rfl (by decide) w990 dX5_copy_148 ?_
                              refine tr_bipush C (v := 40) dX5_copy_151 (by decide) ?_
                              refine tr_iload_n C (i := 3) dX5_copy_153 rfl rfl ?_
                              refine tr_imul C dX5_copy_154 ?_
                              refine tr_iload C (i := 4) dX5_copy_155 rfl ?_
                              refine tr_iadd C dX5_copy_157 ?_
                              refine tr_iload C (i := 8) dX5_copy_158 rfl ?_
                              refine tr_iadd C dX5_copy_160 ?_
                              refine tr_aload_n C (i := 0) dX5_copy_161 rfl rfl ?_
                              refine tr_getR C (k := 42) (ci := 5) rfl rfl rfl inT5 rfl (by decide) w990 dX5_copy_162 ?_
                              refine tr_bipush C (v := 40) dX5_copy_165 (by decide) ?_
                              refine tr_iload_n C (i := 1) dX5_copy_167 rfl rfl ?_
                              refine tr_imul C dX5_copy_168 ?_
                              refine tr_iload_n C (i := 2) dX5_copy_169 rfl rfl ?_
                              refine tr_iadd C dX5_copy_170 ?_
                              refine tr_iload C (i := 8) dX5_copy_171 rfl ?_
                              refine tr_iadd C dX5_copy_173 ?_
                              refine tr_iald C (n := 160) rfl dX5_copy_174 (fun h5 => ?_)
                              refine tr_iast C (n := 160) (σ' := wr σ145 16 (((40 * a3) + a4) + z0_145) (rd σ145 16 (((40 * a1) + a2) + z0_145))) rfl dX5_copy_175 rfl (fun h4 => ?_)
                              refine tr_stp (fun σw3 eσw3 => ?_)
                              refine tr_iinc C (i := 7) (d := 1) (lv' := [some (.ref (ad 0)), some (.int a1), some (.int a2), some (.int a3), some (.int a4), some (.int a5), some (.int y6_145), some (.int (y7_145 + 1)), some (.int z0_145)]) dX5_copy_176 rfl (by decide) (by decide) rfl ?_
                              refine tr_goto C (tgt := 121) dX5_copy_179 (by decide) ?_
                              refine tr_mask [true, true, true, true, true, true, true, true, false] rfl ?_
                              exact IH121 (σw3, y6_145, y7_145 + 1)
                            refine tr_if_eq C (tgt := 143) dX5_copy_130 (by decide) (fun q10 => ?_) (fun q10 => ?_)
                            · refine tr_iload C (i := 7) dX5_copy_143 rfl ?_
                              exact B145 σ121 y6_121 y7_121 y7_121
                            · refine tr_iload C (i := 5) dX5_copy_133 rfl ?_
                              refine tr_iconst C (v := 1) dX5_copy_135 (by decide) ?_
                              refine tr_isub C dX5_copy_136 ?_
                              refine tr_iload C (i := 7) dX5_copy_137 rfl ?_
                              refine tr_isub C dX5_copy_139 ?_
                              refine tr_goto C (tgt := 145) dX5_copy_140 (by decide) ?_
                              exact B145 σ121 y6_121 y7_121 ((a5 - 1) - y7_121)
                      · refine tr_iconst C (v := 0) dX5_copy_115 (by decide) ?_
                        refine tr_istore C (i := 6) (lv' := [some (.ref (ad 0)), some (.int a1), some (.int a2), some (.int a3), some (.int a4), some (.int a5), some (.int 0), none, none]) dX5_copy_116 (by decide) rfl ?_
                        refine tr_iconst C (v := 0) dX5_copy_118 (by decide) ?_
                        refine tr_istore C (i := 7) (lv' := [some (.ref (ad 0)), some (.int a1), some (.int a2), some (.int a3), some (.int a4), some (.int a5), some (.int 0), some (.int 0), none]) dX5_copy_119 (by decide) rfl ?_
                        refine tr_loop (b := fX5_copy_L121 a1 a2 a3 a4 a5) (sg := fun v => v.1) (lw := fun v => [some (.ref (ad 0)), some (.int a1), some (.int a2), some (.int a3), some (.int a4), some (.int a5), some (.int v.2.1), some (.int v.2.2), none]) (sw := fun v => []) (fun ih121 IH121 v => ?_) 1000 (σ, 0, 0)
                        obtain ⟨σ121, y6_121, y7_121⟩ := v
                        refine tr_st (σ' := σ121) (lv' := [some (.ref (ad 0)), some (.int a1), some (.int a2), some (.int a3), some (.int a4), some (.int a5), some (.int y6_121), some (.int y7_121), none]) (st' := []) rfl rfl rfl ?_
                        refine tr_iload C (i := 7) dX5_copy_121 rfl ?_
                        refine tr_iload C (i := 5) dX5_copy_123 rfl ?_
                        refine tr_icmp_ge C (tgt := 182) dX5_copy_125 (by decide) (fun q7 => ?_) (fun q7 => ?_)
                        · refine tr_iload C (i := 5) dX5_copy_182 rfl ?_
                          exact tr_iret C hr hlk dX5_copy_184
                        · refine tr_iload C (i := 6) dX5_copy_128 rfl ?_
                          have B145 : ∀ (σ145 : Mem) (y6_145 : Int32) (y7_145 : Int32) (z0_145 : Int32), Tr p l e { frames := 2, cells := 0, slots := 0, locals := 45 } s m args below meth c g ad (shM g) A 9 (QI g ad (shM g) A below args s) (fX5_copy_b145 a1 a2 a3 a4 a5 ih121 σ145 y6_145 y7_145 z0_145) σ145 145 [some (.ref (ad 0)), some (.int a1), some (.int a2), some (.int a3), some (.int a4), some (.int a5), some (.int y6_145), some (.int y7_145), none] [.int z0_145] := by
                            intro σ145 y6_145 y7_145 z0_145
                            refine tr_istore C (i := 8) (lv' := [some (.ref (ad 0)), some (.int a1), some (.int a2), some (.int a3), some (.int a4), some (.int a5), some (.int y6_145), some (.int y7_145), some (.int z0_145)]) dX5_copy_145 (by decide) rfl ?_
                            refine tr_aload_n C (i := 0) dX5_copy_147 rfl rfl ?_
                            refine tr_getR C (k := 42) (ci := 5) rfl rfl rfl inT5 rfl (by decide) w990 dX5_copy_148 ?_
                            refine tr_bipush C (v := 40) dX5_copy_151 (by decide) ?_
                            refine tr_iload_n C (i := 3) dX5_copy_153 rfl rfl ?_
                            refine tr_imul C dX5_copy_154 ?_
                            refine tr_iload C (i := 4) dX5_copy_155 rfl ?_
                            refine tr_iadd C dX5_copy_157 ?_
                            refine tr_iload C (i := 8) dX5_copy_158 rfl ?_
                            refine tr_iadd C dX5_copy_160 ?_
                            refine tr_aload_n C (i := 0) dX5_copy_161 rfl rfl ?_
                            refine tr_getR C (k := 42) (ci := 5) rfl rfl rfl inT5 rfl (by decide) w990 dX5_copy_162 ?_
                            refine tr_bipush C (v := 40) dX5_copy_165 (by decide) ?_
                            refine tr_iload_n C (i := 1) dX5_copy_167 rfl rfl ?_
                            refine tr_imul C dX5_copy_168 ?_
                            refine tr_iload_n C (i := 2) dX5_copy_169 rfl rfl ?_
                            refine tr_iadd C dX5_copy_170 ?_
                            refine tr_iload C (i := 8) dX5_copy_171 rfl ?_
                            refine tr_iadd C dX5_copy_173 ?_
                            refine tr_iald C (n := 160) rfl dX5_copy_174 (fun h5 => ?_)
                            refine tr_iast C (n := 160) (σ' := wr σ145 16 (((40 * a3) + a4) + z0_145) (rd σ145 16 (((40 * a1) + a2) + z0_145))) rfl dX5_copy_175 rfl (fun h4 => ?_)
                            refine tr_stp (fun σw3 eσw3 => ?_)
                            refine tr_iinc C (i := 7) (d := 1) (lv' := [some (.ref (ad 0)), some (.int a1), some (.int a2), some (.int a3), some (.int a4), some (.int a5), some (.int y6_145), some (.int (y7_145 + 1)), some (.int z0_145)]) dX5_copy_176 rfl (by decide) (by decide) rfl ?_
                            refine tr_goto C (tgt := 121) dX5_copy_179 (by decide) ?_
                            refine tr_mask [true, true, true, true, true, true, true, true, false] rfl ?_
                            exact IH121 (σw3, y6_145, y7_145 + 1)
                          refine tr_if_eq C (tgt := 143) dX5_copy_130 (by decide) (fun q6 => ?_) (fun q6 => ?_)
                          · refine tr_iload C (i := 7) dX5_copy_143 rfl ?_
                            exact B145 σ121 y6_121 y7_121 y7_121
                          · refine tr_iload C (i := 5) dX5_copy_133 rfl ?_
                            refine tr_iconst C (v := 1) dX5_copy_135 (by decide) ?_
                            refine tr_isub C dX5_copy_136 ?_
                            refine tr_iload C (i := 7) dX5_copy_137 rfl ?_
                            refine tr_isub C dX5_copy_139 ?_
                            refine tr_goto C (tgt := 145) dX5_copy_140 (by decide) ?_
                            exact B145 σ121 y6_121 y7_121 ((a5 - 1) - y7_121)
                    · refine tr_bipush C (v := -12) dX5_copy_97 (by decide) ?_
                      exact tr_iret C hr hlk dX5_copy_99
          · refine tr_bipush C (v := -13) dX5_copy_53 (by decide) ?_
            exact tr_iret C hr hlk dX5_copy_55
def fX5_heap_L75 (a1 : Int32) (a2 : Int32) (a3 : Int32) (a4 : Int32) (ih75 : Mem × Int32 × Int32 → Option (Int32 × Mem)) : Mem × Int32 × Int32 → Option (Int32 × Mem) := fun v => match v with
  | (σ75, y5_75, y6_75) =>
    if a4 ≤ y6_75 then (
      some (y5_75, σ75)
    ) else (
      if a3 < 0 then (
        some (-12, σ75)
      ) else (
        gd (inB a1 4) (
          if a3 ≤ (((rd σ75 15 a1) - (3 * y6_75)) - 3) then (
            gd (inB (((40 * a1) + a3) + (3 * y6_75)) 160) (
              gd (inB ((((40 * a1) + a3) + (3 * y6_75)) + 1) 160) (
                gd (inB ((((40 * a1) + a3) + (3 * y6_75)) + 2) 160) (
                  bnd (fX5_dust (rd σ75 16 (((40 * a1) + a3) + (3 * y6_75))) (rd σ75 16 ((((40 * a1) + a3) + (3 * y6_75)) + 1)) (rd σ75 16 ((((40 * a1) + a3) + (3 * y6_75)) + 2)) σ75) fun r4 σ4 => (
                    if r4 < 0 then (
                      ih75 (σ4, y5_75 + 0, y6_75 + 1)
                    ) else (
                      ih75 (σ4, y5_75 + 1, y6_75 + 1)
                    )
                  )
                )
              )
            )
          ) else (
            some (-12, σ75)
          )
        )
      )
    )
def fX5_heap (a1 : Int32) (a2 : Int32) (a3 : Int32) (a4 : Int32) (σ : Mem) : Option (Int32 × Mem) :=
  bn1 (fX5_isSheet a1 σ) fun r1 => (
    if r1 = 0 then (
      some (-2, σ)
    ) else (
      bn1 (fX5_in a2.toInt64 0 2 σ) fun r2 => (
        if r2 = 0 then (
          some (-2, σ)
        ) else (
          bn1 (fX5_in a4.toInt64 0 8 σ) fun r3 => (
            if r3 = 0 then (
              some (-2, σ)
            ) else (
              gd (inB a1 4) (
                if (rd σ 13 a1) = 0 then (
                  gd (inB a1 4) (
                    if (rd σ 13 a1) = 0 then (
                      some (-11, σ)
                    ) else (
                      loopN (fX5_heap_L75 a1 a2 a3 a4) 1000 (σ, 0, 0)
                    )
                  )
                ) else (
                  gd (inB a1 4) (
                    if (rd σ 14 a1) = a2 then (
                      gd (inB a1 4) (
                        if (rd σ 13 a1) = 0 then (
                          some (-11, σ)
                        ) else (
                          loopN (fX5_heap_L75 a1 a2 a3 a4) 1000 (σ, 0, 0)
                        )
                      )
                    ) else (
                      some (-13, σ)
                    )
                  )
                )
              )
            )
          )
        )
      )
    )
  )
set_option maxHeartbeats 4000000 in
set_option maxRecDepth 100000 in
theorem kX5_heap (l : Launch) (g : GG) (cs : CS) (ad : Nat → Nat) (a1 : Int32) (a2 : Int32) (a3 : Int32) (a4 : Int32) (σ : Mem) : CtI l g cs ad (shM g) mX5_heap (.code mX5_heap cX5_heap 8 (some .int)) { frames := 3, cells := 0, slots := 0, locals := 68 } [.ref (ad 0), .int a1, .int a2, .int a3, .int a4] σ (fX5_heap a1 a2 a3 a4 σ) := by
  refine ctI_intro (own := "KinInTheHeapModel") (by decide +kernel) rfl [some (.ref (ad 0)), some (.int a1), some (.int a2), some (.int a3), some (.int a4), none, none, none] (Nat.le_of_ble_eq_true rfl) rfl ?_
  intro p e s m args below meth c A C hr hlk
  refine tr_iload_n C (i := 1) dX5_heap_0 rfl rfl ?_
  refine tr_cSIP C (av := [.int a1]) (st := []) (kX5_isSheet l g cs ad a1 σ) mwX5_isSheet w1271 ⟨rfl, rfl⟩ ⟨(Nat.le_of_ble_eq_true rfl), (Nat.le_of_ble_eq_true rfl)⟩ rfl rfl (Nat.le_of_ble_eq_true rfl) dX5_heap_1 (fun r1 hr1 => ?_)
  refine tr_if_eq C (tgt := 32) dX5_heap_4 (by decide) (fun q32 => ?_) (fun q32 => ?_)
  · refine tr_bipush C (v := -2) dX5_heap_32 (by decide) ?_
    exact tr_iret C hr hlk dX5_heap_34
  · refine tr_iload_n C (i := 2) dX5_heap_7 rfl rfl ?_
    refine tr_i2l C dX5_heap_8 ?_
    refine tr_lconst C (v := 0) dX5_heap_9 (by decide) ?_
    refine tr_ldc2 C (v := 2) w1401 dX5_heap_10 ?_
    refine tr_cSIP C (av := [.long a2.toInt64, .long 0, .long 2]) (st := []) (kX5_in l g cs ad a2.toInt64 0 2 σ) mwX5_in w1084 ⟨rfl, rfl⟩ ⟨(Nat.le_of_ble_eq_true rfl), (Nat.le_of_ble_eq_true rfl)⟩ rfl rfl (Nat.le_of_ble_eq_true rfl) dX5_heap_13 (fun r2 hr2 => ?_)
    refine tr_if_eq C (tgt := 32) dX5_heap_16 (by decide) (fun q31 => ?_) (fun q31 => ?_)
    · refine tr_bipush C (v := -2) dX5_heap_32 (by decide) ?_
      exact tr_iret C hr hlk dX5_heap_34
    · refine tr_iload C (i := 4) dX5_heap_19 rfl ?_
      refine tr_i2l C dX5_heap_21 ?_
      refine tr_lconst C (v := 0) dX5_heap_22 (by decide) ?_
      refine tr_ldc2 C (v := 8) w1416 dX5_heap_23 ?_
      refine tr_cSIP C (av := [.long a4.toInt64, .long 0, .long 8]) (st := []) (kX5_in l g cs ad a4.toInt64 0 8 σ) mwX5_in w1084 ⟨rfl, rfl⟩ ⟨(Nat.le_of_ble_eq_true rfl), (Nat.le_of_ble_eq_true rfl)⟩ rfl rfl (Nat.le_of_ble_eq_true rfl) dX5_heap_26 (fun r3 hr3 => ?_)
      refine tr_if_ne C (tgt := 35) dX5_heap_29 (by decide) (fun q30 => ?_) (fun q30 => ?_)
      · refine tr_bipush C (v := -2) dX5_heap_32 (by decide) ?_
        exact tr_iret C hr hlk dX5_heap_34
      · refine tr_aload_n C (i := 0) dX5_heap_35 rfl rfl ?_
        refine tr_getR C (k := 39) (ci := 5) rfl rfl rfl inT5 rfl (by decide) w987 dX5_heap_36 ?_
        refine tr_iload_n C (i := 1) dX5_heap_39 rfl rfl ?_
        refine tr_zald C (n := 4) rfl dX5_heap_40 (fun h29 => ?_)
        refine tr_if_eq C (tgt := 57) dX5_heap_41 (by decide) (fun q28 => ?_) (fun q28 => ?_)
        · refine tr_aload_n C (i := 0) dX5_heap_57 rfl rfl ?_
          refine tr_getR C (k := 39) (ci := 5) rfl rfl rfl inT5 rfl (by decide) w987 dX5_heap_58 ?_
          refine tr_iload_n C (i := 1) dX5_heap_61 rfl rfl ?_
          refine tr_zald C (n := 4) rfl dX5_heap_62 (fun h14 => ?_)
          refine tr_if_ne C (tgt := 69) dX5_heap_63 (by decide) (fun q13 => ?_) (fun q13 => ?_)
          · refine tr_bipush C (v := -11) dX5_heap_66 (by decide) ?_
            exact tr_iret C hr hlk dX5_heap_68
          · refine tr_iconst C (v := 0) dX5_heap_69 (by decide) ?_
            refine tr_istore C (i := 5) (lv' := [some (.ref (ad 0)), some (.int a1), some (.int a2), some (.int a3), some (.int a4), some (.int 0), none, none]) dX5_heap_70 (by decide) rfl ?_
            refine tr_iconst C (v := 0) dX5_heap_72 (by decide) ?_
            refine tr_istore C (i := 6) (lv' := [some (.ref (ad 0)), some (.int a1), some (.int a2), some (.int a3), some (.int a4), some (.int 0), some (.int 0), none]) dX5_heap_73 (by decide) rfl ?_
            refine tr_mask [true, true, false, true, true, true, true, false] rfl ?_
            refine tr_loop (b := fX5_heap_L75 a1 a2 a3 a4) (sg := fun v => v.1) (lw := fun v => [some (.ref (ad 0)), some (.int a1), none, some (.int a3), some (.int a4), some (.int v.2.1), some (.int v.2.2), none]) (sw := fun v => []) (fun ih75 IH75 v => ?_) 1000 (σ, 0, 0)
            obtain ⟨σ75, y5_75, y6_75⟩ := v
            refine tr_st (σ' := σ75) (lv' := [some (.ref (ad 0)), some (.int a1), none, some (.int a3), some (.int a4), some (.int y5_75), some (.int y6_75), none]) (st' := []) rfl rfl rfl ?_
            refine tr_iload C (i := 6) dX5_heap_75 rfl ?_
            refine tr_iload C (i := 4) dX5_heap_77 rfl ?_
            refine tr_icmp_ge C (tgt := 167) dX5_heap_79 (by decide) (fun q12 => ?_) (fun q12 => ?_)
            · refine tr_iload C (i := 5) dX5_heap_167 rfl ?_
              exact tr_iret C hr hlk dX5_heap_169
            · refine tr_iload_n C (i := 3) dX5_heap_82 rfl rfl ?_
              refine tr_if_lt C (tgt := 103) dX5_heap_83 (by decide) (fun q11 => ?_) (fun q11 => ?_)
              · refine tr_bipush C (v := -12) dX5_heap_103 (by decide) ?_
                exact tr_iret C hr hlk dX5_heap_105
              · refine tr_iload_n C (i := 3) dX5_heap_86 rfl rfl ?_
                refine tr_aload_n C (i := 0) dX5_heap_87 rfl rfl ?_
                refine tr_getR C (k := 41) (ci := 5) rfl rfl rfl inT5 rfl (by decide) w989 dX5_heap_88 ?_
                refine tr_iload_n C (i := 1) dX5_heap_91 rfl rfl ?_
                refine tr_iald C (n := 4) rfl dX5_heap_92 (fun h10 => ?_)
                refine tr_iconst C (v := 3) dX5_heap_93 (by decide) ?_
                refine tr_iload C (i := 6) dX5_heap_94 rfl ?_
                refine tr_imul C dX5_heap_96 ?_
                refine tr_isub C dX5_heap_97 ?_
                refine tr_iconst C (v := 3) dX5_heap_98 (by decide) ?_
                refine tr_isub C dX5_heap_99 ?_
                refine tr_icmp_le C (tgt := 106) dX5_heap_100 (by decide) (fun q9 => ?_) (fun q9 => ?_)
                · refine tr_bipush C (v := 40) dX5_heap_106 (by decide) ?_
                  refine tr_iload_n C (i := 1) dX5_heap_108 rfl rfl ?_
                  refine tr_imul C dX5_heap_109 ?_
                  refine tr_iload_n C (i := 3) dX5_heap_110 rfl rfl ?_
                  refine tr_iadd C dX5_heap_111 ?_
                  refine tr_iconst C (v := 3) dX5_heap_112 (by decide) ?_
                  refine tr_iload C (i := 6) dX5_heap_113 rfl ?_
                  refine tr_imul C dX5_heap_115 ?_
                  refine tr_iadd C dX5_heap_116 ?_
                  refine tr_istore C (i := 7) (lv' := [some (.ref (ad 0)), some (.int a1), none, some (.int a3), some (.int a4), some (.int y5_75), some (.int y6_75), some (.int (((40 * a1) + a3) + (3 * y6_75)))]) dX5_heap_117 (by decide) rfl ?_
                  refine tr_iload C (i := 5) dX5_heap_119 rfl ?_
                  refine tr_aload_n C (i := 0) dX5_heap_121 rfl rfl ?_
                  refine tr_aload_n C (i := 0) dX5_heap_122 rfl rfl ?_
                  refine tr_getR C (k := 42) (ci := 5) rfl rfl rfl inT5 rfl (by decide) w990 dX5_heap_123 ?_
                  refine tr_iload C (i := 7) dX5_heap_126 rfl ?_
                  refine tr_iald C (n := 160) rfl dX5_heap_128 (fun h8 => ?_)
                  refine tr_aload_n C (i := 0) dX5_heap_129 rfl rfl ?_
                  refine tr_getR C (k := 42) (ci := 5) rfl rfl rfl inT5 rfl (by decide) w990 dX5_heap_130 ?_
                  refine tr_iload C (i := 7) dX5_heap_133 rfl ?_
                  refine tr_iconst C (v := 1) dX5_heap_135 (by decide) ?_
                  refine tr_iadd C dX5_heap_136 ?_
                  refine tr_iald C (n := 160) rfl dX5_heap_137 (fun h7 => ?_)
                  refine tr_aload_n C (i := 0) dX5_heap_138 rfl rfl ?_
                  refine tr_getR C (k := 42) (ci := 5) rfl rfl rfl inT5 rfl (by decide) w990 dX5_heap_139 ?_
                  refine tr_iload C (i := 7) dX5_heap_142 rfl ?_
                  refine tr_iconst C (v := 2) dX5_heap_144 (by decide) ?_
                  refine tr_iadd C dX5_heap_145 ?_
                  refine tr_iald C (n := 160) rfl dX5_heap_146 (fun h6 => ?_)
                  refine tr_cVI C (av := [.int (rd σ75 16 (((40 * a1) + a3) + (3 * y6_75))), .int (rd σ75 16 ((((40 * a1) + a3) + (3 * y6_75)) + 1)), .int (rd σ75 16 ((((40 * a1) + a3) + (3 * y6_75)) + 2))]) (st := [.int y5_75]) (kX5_dust l g cs ad (rd σ75 16 (((40 * a1) + a3) + (3 * y6_75))) (rd σ75 16 ((((40 * a1) + a3) + (3 * y6_75)) + 1)) (rd σ75 16 ((((40 * a1) + a3) + (3 * y6_75)) + 2)) σ75) mwX5_dust w1442 rfl rfl ⟨rfl, rfl⟩ ⟨(Nat.le_of_ble_eq_true rfl), (Nat.le_of_ble_eq_true rfl)⟩ rfl rfl (Nat.le_of_ble_eq_true rfl) dX5_heap_147 (fun r4 σ4 hr4 => ?_)
                  refine tr_if_lt C (tgt := 157) dX5_heap_150 (by decide) (fun q5 => ?_) (fun q5 => ?_)
                  · refine tr_iconst C (v := 0) dX5_heap_157 (by decide) ?_
                    refine tr_iadd C dX5_heap_158 ?_
                    refine tr_istore C (i := 5) (lv' := [some (.ref (ad 0)), some (.int a1), none, some (.int a3), some (.int a4), some (.int (y5_75 + 0)), some (.int y6_75), some (.int (((40 * a1) + a3) + (3 * y6_75)))]) dX5_heap_159 (by decide) rfl ?_
                    refine tr_iinc C (i := 6) (d := 1) (lv' := [some (.ref (ad 0)), some (.int a1), none, some (.int a3), some (.int a4), some (.int (y5_75 + 0)), some (.int (y6_75 + 1)), some (.int (((40 * a1) + a3) + (3 * y6_75)))]) dX5_heap_161 rfl (by decide) (by decide) rfl ?_
                    refine tr_goto C (tgt := 75) dX5_heap_164 (by decide) ?_
                    refine tr_mask [true, true, false, true, true, true, true, false] rfl ?_
                    exact IH75 (σ4, y5_75 + 0, y6_75 + 1)
                  · refine tr_iconst C (v := 1) dX5_heap_153 (by decide) ?_
                    refine tr_goto C (tgt := 158) dX5_heap_154 (by decide) ?_
                    refine tr_iadd C dX5_heap_158 ?_
                    refine tr_istore C (i := 5) (lv' := [some (.ref (ad 0)), some (.int a1), none, some (.int a3), some (.int a4), some (.int (y5_75 + 1)), some (.int y6_75), some (.int (((40 * a1) + a3) + (3 * y6_75)))]) dX5_heap_159 (by decide) rfl ?_
                    refine tr_iinc C (i := 6) (d := 1) (lv' := [some (.ref (ad 0)), some (.int a1), none, some (.int a3), some (.int a4), some (.int (y5_75 + 1)), some (.int (y6_75 + 1)), some (.int (((40 * a1) + a3) + (3 * y6_75)))]) dX5_heap_161 rfl (by decide) (by decide) rfl ?_
                    refine tr_goto C (tgt := 75) dX5_heap_164 (by decide) ?_
                    refine tr_mask [true, true, false, true, true, true, true, false] rfl ?_
                    exact IH75 (σ4, y5_75 + 1, y6_75 + 1)
                · refine tr_bipush C (v := -12) dX5_heap_103 (by decide) ?_
                  exact tr_iret C hr hlk dX5_heap_105
        · refine tr_aload_n C (i := 0) dX5_heap_44 rfl rfl ?_
          refine tr_getR C (k := 40) (ci := 5) rfl rfl rfl inT5 rfl (by decide) w988 dX5_heap_45 ?_
          refine tr_iload_n C (i := 1) dX5_heap_48 rfl rfl ?_
          refine tr_iald C (n := 4) rfl dX5_heap_49 (fun h27 => ?_)
          refine tr_iload_n C (i := 2) dX5_heap_50 rfl rfl ?_
          refine tr_icmp_eq C (tgt := 57) dX5_heap_51 (by decide) (fun q26 => ?_) (fun q26 => ?_)
          · refine tr_aload_n C (i := 0) dX5_heap_57 rfl rfl ?_
            refine tr_getR C (k := 39) (ci := 5) rfl rfl rfl inT5 rfl (by decide) w987 dX5_heap_58 ?_
            refine tr_iload_n C (i := 1) dX5_heap_61 rfl rfl ?_
            refine tr_zald C (n := 4) rfl dX5_heap_62 (fun h25 => ?_)
            refine tr_if_ne C (tgt := 69) dX5_heap_63 (by decide) (fun q24 => ?_) (fun q24 => ?_)
            · refine tr_bipush C (v := -11) dX5_heap_66 (by decide) ?_
              exact tr_iret C hr hlk dX5_heap_68
            · refine tr_iconst C (v := 0) dX5_heap_69 (by decide) ?_
              refine tr_istore C (i := 5) (lv' := [some (.ref (ad 0)), some (.int a1), some (.int a2), some (.int a3), some (.int a4), some (.int 0), none, none]) dX5_heap_70 (by decide) rfl ?_
              refine tr_iconst C (v := 0) dX5_heap_72 (by decide) ?_
              refine tr_istore C (i := 6) (lv' := [some (.ref (ad 0)), some (.int a1), some (.int a2), some (.int a3), some (.int a4), some (.int 0), some (.int 0), none]) dX5_heap_73 (by decide) rfl ?_
              refine tr_mask [true, true, false, true, true, true, true, false] rfl ?_
              refine tr_loop (b := fX5_heap_L75 a1 a2 a3 a4) (sg := fun v => v.1) (lw := fun v => [some (.ref (ad 0)), some (.int a1), none, some (.int a3), some (.int a4), some (.int v.2.1), some (.int v.2.2), none]) (sw := fun v => []) (fun ih75 IH75 v => ?_) 1000 (σ, 0, 0)
              obtain ⟨σ75, y5_75, y6_75⟩ := v
              refine tr_st (σ' := σ75) (lv' := [some (.ref (ad 0)), some (.int a1), none, some (.int a3), some (.int a4), some (.int y5_75), some (.int y6_75), none]) (st' := []) rfl rfl rfl ?_
              refine tr_iload C (i := 6) dX5_heap_75 rfl ?_
              refine tr_iload C (i := 4) dX5_heap_77 rfl ?_
              refine tr_icmp_ge C (tgt := 167) dX5_heap_79 (by decide) (fun q23 => ?_) (fun q23 => ?_)
              · refine tr_iload C (i := 5) dX5_heap_167 rfl ?_
                exact tr_iret C hr hlk dX5_heap_169
              · refine tr_iload_n C (i := 3) dX5_heap_82 rfl rfl ?_
                refine tr_if_lt C (tgt := 103) dX5_heap_83 (by decide) (fun q22 => ?_) (fun q22 => ?_)
                · refine tr_bipush C (v := -12) dX5_heap_103 (by decide) ?_
                  exact tr_iret C hr hlk dX5_heap_105
                · refine tr_iload_n C (i := 3) dX5_heap_86 rfl rfl ?_
                  refine tr_aload_n C (i := 0) dX5_heap_87 rfl rfl ?_
                  refine tr_getR C (k := 41) (ci := 5) rfl rfl rfl inT5 rfl (by decide) w989 dX5_heap_88 ?_
                  refine tr_iload_n C (i := 1) dX5_heap_91 rfl rfl ?_
                  refine tr_iald C (n := 4) rfl dX5_heap_92 (fun h21 => ?_)
                  refine tr_iconst C (v := 3) dX5_heap_93 (by decide) ?_
                  refine tr_iload C (i := 6) dX5_heap_94 rfl ?_
                  refine tr_imul C dX5_heap_96 ?_
                  refine tr_isub C dX5_heap_97 ?_
                  refine tr_iconst C (v := 3) dX5_heap_98 (by decide) ?_
                  refine tr_isub C dX5_heap_99 ?_
                  refine tr_icmp_le C (tgt := 106) dX5_heap_100 (by decide) (fun q20 => ?_) (fun q20 => ?_)
                  · refine tr_bipush C (v := 40) dX5_heap_106 (by decide) ?_
                    refine tr_iload_n C (i := 1) dX5_heap_108 rfl rfl ?_
                    refine tr_imul C dX5_heap_109 ?_
                    refine tr_iload_n C (i := 3) dX5_heap_110 rfl rfl ?_
                    refine tr_iadd C dX5_heap_111 ?_
                    refine tr_iconst C (v := 3) dX5_heap_112 (by decide) ?_
                    refine tr_iload C (i := 6) dX5_heap_113 rfl ?_
                    refine tr_imul C dX5_heap_115 ?_
                    refine tr_iadd C dX5_heap_116 ?_
                    refine tr_istore C (i := 7) (lv' := [some (.ref (ad 0)), some (.int a1), none, some (.int a3), some (.int a4), some (.int y5_75), some (.int y6_75), some (.int (((40 * a1) + a3) + (3 * y6_75)))]) dX5_heap_117 (by decide) rfl ?_
                    refine tr_iload C (i := 5) dX5_heap_119 rfl ?_
                    refine tr_aload_n C (i := 0) dX5_heap_121 rfl rfl ?_
                    refine tr_aload_n C (i := 0) dX5_heap_122 rfl rfl ?_
                    refine tr_getR C (k := 42) (ci := 5) rfl rfl rfl inT5 rfl (by decide) w990 dX5_heap_123 ?_
                    refine tr_iload C (i := 7) dX5_heap_126 rfl ?_
                    refine tr_iald C (n := 160) rfl dX5_heap_128 (fun h19 => ?_)
                    refine tr_aload_n C (i := 0) dX5_heap_129 rfl rfl ?_
                    refine tr_getR C (k := 42) (ci := 5) rfl rfl rfl inT5 rfl (by decide) w990 dX5_heap_130 ?_
                    refine tr_iload C (i := 7) dX5_heap_133 rfl ?_
                    refine tr_iconst C (v := 1) dX5_heap_135 (by decide) ?_
                    refine tr_iadd C dX5_heap_136 ?_
                    refine tr_iald C (n := 160) rfl dX5_heap_137 (fun h18 => ?_)
                    refine tr_aload_n C (i := 0) dX5_heap_138 rfl rfl ?_
                    refine tr_getR C (k := 42) (ci := 5) rfl rfl rfl inT5 rfl (by decide) w990 dX5_heap_139 ?_
                    refine tr_iload C (i := 7) dX5_heap_142 rfl ?_
                    refine tr_iconst C (v := 2) dX5_heap_144 (by decide) ?_
                    refine tr_iadd C dX5_heap_145 ?_
                    refine tr_iald C (n := 160) rfl dX5_heap_146 (fun h17 => ?_)
                    refine tr_cVI C (av := [.int (rd σ75 16 (((40 * a1) + a3) + (3 * y6_75))), .int (rd σ75 16 ((((40 * a1) + a3) + (3 * y6_75)) + 1)), .int (rd σ75 16 ((((40 * a1) + a3) + (3 * y6_75)) + 2))]) (st := [.int y5_75]) (kX5_dust l g cs ad (rd σ75 16 (((40 * a1) + a3) + (3 * y6_75))) (rd σ75 16 ((((40 * a1) + a3) + (3 * y6_75)) + 1)) (rd σ75 16 ((((40 * a1) + a3) + (3 * y6_75)) + 2)) σ75) mwX5_dust w1442 rfl rfl ⟨rfl, rfl⟩ ⟨(Nat.le_of_ble_eq_true rfl), (Nat.le_of_ble_eq_true rfl)⟩ rfl rfl (Nat.le_of_ble_eq_true rfl) dX5_heap_147 (fun r15 σ15 hr15 => ?_)
                    refine tr_if_lt C (tgt := 157) dX5_heap_150 (by decide) (fun q16 => ?_) (fun q16 => ?_)
                    · refine tr_iconst C (v := 0) dX5_heap_157 (by decide) ?_
                      refine tr_iadd C dX5_heap_158 ?_
                      refine tr_istore C (i := 5) (lv' := [some (.ref (ad 0)), some (.int a1), none, some (.int a3), some (.int a4), some (.int (y5_75 + 0)), some (.int y6_75), some (.int (((40 * a1) + a3) + (3 * y6_75)))]) dX5_heap_159 (by decide) rfl ?_
                      refine tr_iinc C (i := 6) (d := 1) (lv' := [some (.ref (ad 0)), some (.int a1), none, some (.int a3), some (.int a4), some (.int (y5_75 + 0)), some (.int (y6_75 + 1)), some (.int (((40 * a1) + a3) + (3 * y6_75)))]) dX5_heap_161 rfl (by decide) (by decide) rfl ?_
                      refine tr_goto C (tgt := 75) dX5_heap_164 (by decide) ?_
                      refine tr_mask [true, true, false, true, true, true, true, false] rfl ?_
                      exact IH75 (σ15, y5_75 + 0, y6_75 + 1)
                    · refine tr_iconst C (v := 1) dX5_heap_153 (by decide) ?_
                      refine tr_goto C (tgt := 158) dX5_heap_154 (by decide) ?_
                      refine tr_iadd C dX5_heap_158 ?_
                      refine tr_istore C (i := 5) (lv' := [some (.ref (ad 0)), some (.int a1), none, some (.int a3), some (.int a4), some (.int (y5_75 + 1)), some (.int y6_75), some (.int (((40 * a1) + a3) + (3 * y6_75)))]) dX5_heap_159 (by decide) rfl ?_
                      refine tr_iinc C (i := 6) (d := 1) (lv' := [some (.ref (ad 0)), some (.int a1), none, some (.int a3), some (.int a4), some (.int (y5_75 + 1)), some (.int (y6_75 + 1)), some (.int (((40 * a1) + a3) + (3 * y6_75)))]) dX5_heap_161 rfl (by decide) (by decide) rfl ?_
                      refine tr_goto C (tgt := 75) dX5_heap_164 (by decide) ?_
                      refine tr_mask [true, true, false, true, true, true, true, false] rfl ?_
                      exact IH75 (σ15, y5_75 + 1, y6_75 + 1)
                  · refine tr_bipush C (v := -12) dX5_heap_103 (by decide) ?_
                    exact tr_iret C hr hlk dX5_heap_105
          · refine tr_bipush C (v := -13) dX5_heap_54 (by decide) ?_
            exact tr_iret C hr hlk dX5_heap_56
def fX5_over (a1 : Int32) (σ : Mem) : Option (Int32) :=
  if a1 = 0 then (
    some (-1)
  ) else (
    if a1 = 3 then (
      some 1
    ) else (
      if a1 = 4 then (
        some 2
      ) else (
        some 0
      )
    )
  )
set_option maxHeartbeats 4000000 in
set_option maxRecDepth 100000 in
theorem kX5_over (l : Launch) (g : GG) (cs : CS) (ad : Nat → Nat) (a1 : Int32) (σ : Mem) : CtI l g cs ad (shM g) mX5_over (.code mX5_over cX5_over 1 (some .int)) { frames := 0, cells := 0, slots := 0, locals := 0 } [.int a1] σ (pur (fX5_over a1 σ) σ) := by
  refine ctIP_intro (own := "KinInTheHeapModel") (by decide +kernel) rfl [some (.int a1)] (Nat.le_of_ble_eq_true rfl) rfl ?_
  intro p e s m args below meth c A C hr hlk
  refine tr_iload_n C (i := 0) dX5_over_0 rfl rfl ?_
  refine tr_if_ne C (tgt := 8) dX5_over_1 (by decide) (fun q3 => ?_) (fun q3 => ?_)
  · refine tr_iconst C (v := -1) dX5_over_4 (by decide) ?_
    refine tr_goto C (tgt := 27) dX5_over_5 (by decide) ?_
    exact tr_iretP C hr hlk dX5_over_27
  · refine tr_iload_n C (i := 0) dX5_over_8 rfl rfl ?_
    refine tr_iconst C (v := 3) dX5_over_9 (by decide) ?_
    refine tr_icmp_ne C (tgt := 17) dX5_over_10 (by decide) (fun q2 => ?_) (fun q2 => ?_)
    · refine tr_iconst C (v := 1) dX5_over_13 (by decide) ?_
      refine tr_goto C (tgt := 27) dX5_over_14 (by decide) ?_
      exact tr_iretP C hr hlk dX5_over_27
    · refine tr_iload_n C (i := 0) dX5_over_17 rfl rfl ?_
      refine tr_iconst C (v := 4) dX5_over_18 (by decide) ?_
      refine tr_icmp_ne C (tgt := 26) dX5_over_19 (by decide) (fun q1 => ?_) (fun q1 => ?_)
      · refine tr_iconst C (v := 2) dX5_over_22 (by decide) ?_
        refine tr_goto C (tgt := 27) dX5_over_23 (by decide) ?_
        exact tr_iretP C hr hlk dX5_over_27
      · refine tr_iconst C (v := 0) dX5_over_26 (by decide) ?_
        exact tr_iretP C hr hlk dX5_over_27
def fX5_taken_b51 (a1 : Int32) (a2 : Int32) (σ : Mem) (y3_51 : Int32) : Option (Int32) :=
  if y3_51 = a2 then (
    gd (inB a1 8) (
      some (rd σ 6 a1)
    )
  ) else (
    some (-13)
  )
def fX5_taken_L33 (a1 : Int32) (a2 : Int32) (σ : Mem) (ih33 : Int32 → Option (Int32)) : Int32 → Option (Int32) := fun v => match v with
  | y3_33 =>
    if y3_33 = (-1) then (
      fX5_taken_b51 a1 a2 σ y3_33
    ) else (
      if y3_33 = a2 then (
        fX5_taken_b51 a1 a2 σ y3_33
      ) else (
        bn1 (fX5_over y3_33 σ) fun r5 => (
          ih33 r5
        )
      )
    )
def fX5_taken (a1 : Int32) (a2 : Int32) (σ : Mem) : Option (Int32) :=
  bn1 (fX5_in a2.toInt64 0 5 σ) fun r1 => (
    if r1 = 0 then (
      some (-2)
    ) else (
      bn1 (fX5_isOne a1 σ) fun r2 => (
        if r2 = 0 then (
          some (-11)
        ) else (
          gd (inB a1 8) (
            loopN (fX5_taken_L33 a1 a2 σ) 1000 (rd σ 5 a1)
          )
        )
      )
    )
  )
set_option maxHeartbeats 4000000 in
set_option maxRecDepth 100000 in
theorem kX5_taken (l : Launch) (g : GG) (cs : CS) (ad : Nat → Nat) (a1 : Int32) (a2 : Int32) (σ : Mem) : CtI l g cs ad (shM g) mX5_taken (.code mX5_taken cX5_taken 4 (some .int)) { frames := 2, cells := 0, slots := 0, locals := 46 } [.ref (ad 0), .int a1, .int a2] σ (pur (fX5_taken a1 a2 σ) σ) := by
  refine ctIP_intro (own := "KinInTheHeapModel") (by decide +kernel) rfl [some (.ref (ad 0)), some (.int a1), some (.int a2), none] (Nat.le_of_ble_eq_true rfl) rfl ?_
  intro p e s m args below meth c A C hr hlk
  refine tr_iload_n C (i := 2) dX5_taken_0 rfl rfl ?_
  refine tr_i2l C dX5_taken_1 ?_
  refine tr_lconst C (v := 0) dX5_taken_2 (by decide) ?_
  refine tr_ldc2 C (v := 5) w1216 dX5_taken_3 ?_
  refine tr_cSIP C (av := [.long a2.toInt64, .long 0, .long 5]) (st := []) (kX5_in l g cs ad a2.toInt64 0 5 σ) mwX5_in w1084 ⟨rfl, rfl⟩ ⟨(Nat.le_of_ble_eq_true rfl), (Nat.le_of_ble_eq_true rfl)⟩ rfl rfl (Nat.le_of_ble_eq_true rfl) dX5_taken_6 (fun r1 hr1 => ?_)
  refine tr_if_ne C (tgt := 15) dX5_taken_9 (by decide) (fun q10 => ?_) (fun q10 => ?_)
  · refine tr_bipush C (v := -2) dX5_taken_12 (by decide) ?_
    exact tr_iretP C hr hlk dX5_taken_14
  · refine tr_aload_n C (i := 0) dX5_taken_15 rfl rfl ?_
    refine tr_iload_n C (i := 1) dX5_taken_16 rfl rfl ?_
    refine tr_cVIP C (av := [.int a1]) (st := []) (kX5_isOne l g cs ad a1 σ) mwX5_isOne w1095 rfl rfl ⟨rfl, rfl⟩ ⟨(Nat.le_of_ble_eq_true rfl), (Nat.le_of_ble_eq_true rfl)⟩ rfl rfl (Nat.le_of_ble_eq_true rfl) dX5_taken_17 (fun r2 hr2 => ?_)
    refine tr_if_ne C (tgt := 26) dX5_taken_20 (by decide) (fun q9 => ?_) (fun q9 => ?_)
    · refine tr_bipush C (v := -11) dX5_taken_23 (by decide) ?_
      exact tr_iretP C hr hlk dX5_taken_25
    · refine tr_aload_n C (i := 0) dX5_taken_26 rfl rfl ?_
      refine tr_getR C (k := 10) (ci := 5) rfl rfl rfl inT5 rfl (by decide) w958 dX5_taken_27 ?_
      refine tr_iload_n C (i := 1) dX5_taken_30 rfl rfl ?_
      refine tr_iald C (n := 8) rfl dX5_taken_31 (fun h8 => ?_)
      refine tr_istore_n C (i := 3) (lv' := [some (.ref (ad 0)), some (.int a1), some (.int a2), some (.int (rd σ 5 a1))]) dX5_taken_32 rfl (by decide) rfl ?_
      refine tr_loop (b := fX5_taken_L33 a1 a2 σ) (sg := fun v => σ) (lw := fun v => [some (.ref (ad 0)), some (.int a1), some (.int a2), some (.int v)]) (sw := fun v => []) (fun ih33 IH33 v => ?_) 1000 (rd σ 5 a1)
      obtain ⟨y3_33, rfl⟩ : ∃ z, z = v := ⟨v, rfl⟩
      refine tr_st (σ' := σ) (lv' := [some (.ref (ad 0)), some (.int a1), some (.int a2), some (.int y3_33)]) (st' := []) rfl rfl rfl ?_
      refine tr_iload_n C (i := 3) dX5_taken_33 rfl rfl ?_
      refine tr_iconst C (v := -1) dX5_taken_34 (by decide) ?_
      have B51 : ∀ (y3_51 : Int32), Tr p l e { frames := 2, cells := 0, slots := 0, locals := 46 } s m args below meth c g ad (shM g) A 4 (QP g ad (shM g) A below args s σ) (fX5_taken_b51 a1 a2 σ y3_51) σ 51 [some (.ref (ad 0)), some (.int a1), some (.int a2), some (.int y3_51)] [] := by
        intro y3_51
        refine tr_iload_n C (i := 3) dX5_taken_51 rfl rfl ?_
        refine tr_iload_n C (i := 2) dX5_taken_52 rfl rfl ?_
        refine tr_icmp_ne C (tgt := 65) dX5_taken_53 (by decide) (fun q4 => ?_) (fun q4 => ?_)
        · refine tr_aload_n C (i := 0) dX5_taken_56 rfl rfl ?_
          refine tr_getR C (k := 11) (ci := 5) rfl rfl rfl inT5 rfl (by decide) w959 dX5_taken_57 ?_
          refine tr_iload_n C (i := 1) dX5_taken_60 rfl rfl ?_
          refine tr_iald C (n := 8) rfl dX5_taken_61 (fun h3 => ?_)
          refine tr_goto C (tgt := 67) dX5_taken_62 (by decide) ?_
          exact tr_iretP C hr hlk dX5_taken_67
        · refine tr_bipush C (v := -13) dX5_taken_65 (by decide) ?_
          exact tr_iretP C hr hlk dX5_taken_67
      refine tr_icmp_eq C (tgt := 51) dX5_taken_35 (by decide) (fun q7 => ?_) (fun q7 => ?_)
      · exact B51 y3_33
      · refine tr_iload_n C (i := 3) dX5_taken_38 rfl rfl ?_
        refine tr_iload_n C (i := 2) dX5_taken_39 rfl rfl ?_
        refine tr_icmp_eq C (tgt := 51) dX5_taken_40 (by decide) (fun q6 => ?_) (fun q6 => ?_)
        · exact B51 y3_33
        · refine tr_iload_n C (i := 3) dX5_taken_43 rfl rfl ?_
          refine tr_cSIP C (av := [.int y3_33]) (st := []) (kX5_over l g cs ad y3_33 σ) mwX5_over w1447 ⟨rfl, rfl⟩ ⟨(Nat.le_of_ble_eq_true rfl), (Nat.le_of_ble_eq_true rfl)⟩ rfl rfl (Nat.le_of_ble_eq_true rfl) dX5_taken_44 (fun r5 hr5 => ?_)
          refine tr_istore_n C (i := 3) (lv' := [some (.ref (ad 0)), some (.int a1), some (.int a2), some (.int r5)]) dX5_taken_47 rfl (by decide) rfl ?_
          refine tr_goto C (tgt := 33) dX5_taken_48 (by decide) ?_
          exact IH33 r5
