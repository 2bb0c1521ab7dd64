def mtxC (cI : ClassId) (q a1 a2 a3 : Nat) : va_W := [(q, .inr (3, [.ref a1, .ref a2, .ref a3, .int 0, .int 0])), (a1, .inl (cI, 160, .inl (fun _ => 0))), (a2, .inl (cI, 3, .inl (fun _ => 0))), (a3, .inl (cI, 161, .inl (fun _ => 0)))]
def mtx0 (q : Nat) : va_W := [(q, .inr (3, [.null, .null, .null, .int 0, .int 0]))]
def rmX3_init : Room := { frames := 1, cells := 3, slots := 324, locals := 12 }
set_option maxHeartbeats 4000000 in
set_option maxRecDepth 100000 in
theorem kX3_init (l : Launch) (D : va_G) (cI : ClassId) (q sz : Nat) : Met l mX3_init (.code mX3_init cX3_init 1 none :: TB) rmX3_init (va_Pc [.ref q] (fun U => U.heap.size = sz ∧ va_P D vwCl (mtx0 q) U.heap ∧ va_K D vwCl [(cI, .int)] U ∧ va_D (fun _ => True) (mtx0 q))) (va_Qv (fun (_ : Nat × Nat × Nat) => True) (fun u t => va_P D vwCl (mtxC cI q u.1 u.2.1 u.2.2) t.heap ∧ va_D (va_A (mtx0 q) sz) (mtxC cI q u.1 u.2.1 u.2.2)) (va_A (mtx0 q) sz)) 3 324 (va_A (mtx0 q) sz) := by
  refine va_MetF (cc := cX3_init) (maxL := 1) (ret := none) (by decide +kernel) rfl ?_
  intro p e s m args below meth c s₁ B hml hv
  obtain ⟨rfl, hsz, hP, hK, hD0⟩ := hv
  have hts : ∀ w ∈ TB, w.before ([.ref q] : List Value).toArray s = true := fun w hw => atoms_spec (ws := Cond.code mX3_init cX3_init 1 none :: TB) B.pre w (List.mem_cons_of_mem _ hw)
  have hown : s.vm.findClass "KinInTheHeap$Text" = some m.cls := findClass_of_methodNamed B.named
  have hin : meth.name = "<init>" := (name_of_methodNamed B.named B.method).1
  subst hsz
  have hD := hD0.self (sz := s.heap.size)
  have hl := lv_entry [.ref q] (n := 1) (Nat.le_of_ble_eq_true rfl)
  rw [lg_entry_eq]
  generalize (lg_sl [.ref q] ++ List.replicate (1 - (lg_sl [.ref q]).length) Slot.unset).toArray = ls at hl ⊢
  have hL : LH ls 1 [some (.ref q)] := ⟨hl.1, hl.2.1, fun i v hi => hl.2.2 (i, v) (pz_mem.mpr ⟨i, (Nat.zero_add i).symm, hi⟩ : (i, v) ∈ pz 0 [some (.ref q)])⟩
  have C : Cy p s m ([.ref q] : List Value).toArray c cX3_init 1 "KinInTheHeap$Text" D [(cI, .int)] (va_A (mtx0 q) s.heap.size) := ⟨⟨B.exec, B.bytes, hml, hown, hts⟩, hK, fun q h => Or.inr h⟩
  refine (?_ : Aw p l e _ s m _ below meth c D (va_A (mtx0 q) s.heap.size) 1 _ [(q, .inr (3, [.null, .null, .null, .int 0, .int 0]))] 0 0 0 [some (.ref q)] []) s.heap [] ls hP hD va_S.rf hL
  refine a_step (fun H locs ls hL k => lv_aload_n C.1.1 C.1.2.1 dX3_init_0 rfl (LH_at hL (i := 0) rfl) k) ?_
  refine a_obj C w165 (Nat.le_of_ble_eq_true rfl) (Nat.le_of_ble_eq_true rfl) dX3_init_1 ?_
  refine a_step (fun H locs ls hL k => lv_aload_n C.1.1 C.1.2.1 dX3_init_4 rfl (LH_at hL (i := 0) rfl) k) ?_
  refine a_step (fun H locs ls hL k => lv_sipush (v := 160) C.1.1 C.1.2.1 dX3_init_5 (by decide) k) ?_
  refine a_newI C (t0 := 0) (N := 160) rfl (by decide) (by decide) (Nat.le_of_ble_eq_true rfl) (Nat.le_of_ble_eq_true rfl) (Nat.le_of_ble_eq_true rfl) dX3_init_8 (fun a1 => ?_)
  refine a_ws (ws' := [(q, .inr (3, [.null, .null, .null, .int 0, .int 0])), (a1, .inl (cI, 160, .inl (fun _ => 0)))]) rfl rfl ?_
  refine a_putF C hin (q0 := 0) (k := 0) (ci := 3) (ty := (.array .int)) (ws' := [(q, .inr (3, [.ref a1, .null, .null, .int 0, .int 0])), (a1, .inl (cI, 160, .inl (fun _ => 0)))]) rfl rfl inT3 rfl rfl (by decide) tyX3 tyX3_ok nmX3 rfl rfl rfl rfl (Nat.le_of_ble_eq_true rfl) w166 dX3_init_10 rfl ?_
  refine a_step (fun H locs ls hL k => lv_aload_n C.1.1 C.1.2.1 dX3_init_13 rfl (LH_at hL (i := 0) rfl) k) ?_
  refine a_step (fun H locs ls hL k => lv_iconst (v := 3) C.1.1 C.1.2.1 dX3_init_14 (by decide) k) ?_
  refine a_newI C (t0 := 0) (N := 3) rfl (by decide) (by decide) (Nat.le_of_ble_eq_true rfl) (Nat.le_of_ble_eq_true rfl) (Nat.le_of_ble_eq_true rfl) dX3_init_15 (fun a2 => ?_)
  refine a_ws (ws' := [(q, .inr (3, [.ref a1, .null, .null, .int 0, .int 0])), (a1, .inl (cI, 160, .inl (fun _ => 0))), (a2, .inl (cI, 3, .inl (fun _ => 0)))]) rfl rfl ?_
  refine a_putF C hin (q0 := 0) (k := 1) (ci := 3) (ty := (.array .int)) (ws' := [(q, .inr (3, [.ref a1, .ref a2, .null, .int 0, .int 0])), (a1, .inl (cI, 160, .inl (fun _ => 0))), (a2, .inl (cI, 3, .inl (fun _ => 0)))]) rfl rfl inT3 rfl rfl (by decide) tyX3 tyX3_ok nmX3 rfl rfl rfl rfl (Nat.le_of_ble_eq_true rfl) w167 dX3_init_17 rfl ?_
  refine a_step (fun H locs ls hL k => lv_aload_n C.1.1 C.1.2.1 dX3_init_20 rfl (LH_at hL (i := 0) rfl) k) ?_
  refine a_step (fun H locs ls hL k => lv_sipush (v := 161) C.1.1 C.1.2.1 dX3_init_21 (by decide) k) ?_
  refine a_newI C (t0 := 0) (N := 161) rfl (by decide) (by decide) (Nat.le_of_ble_eq_true rfl) (Nat.le_of_ble_eq_true rfl) (Nat.le_of_ble_eq_true rfl) dX3_init_24 (fun a3 => ?_)
  refine a_ws (ws' := [(q, .inr (3, [.ref a1, .ref a2, .null, .int 0, .int 0])), (a1, .inl (cI, 160, .inl (fun _ => 0))), (a2, .inl (cI, 3, .inl (fun _ => 0))), (a3, .inl (cI, 161, .inl (fun _ => 0)))]) rfl rfl ?_
  refine a_putF C hin (q0 := 0) (k := 2) (ci := 3) (ty := (.array .int)) (ws' := [(q, .inr (3, [.ref a1, .ref a2, .ref a3, .int 0, .int 0])), (a1, .inl (cI, 160, .inl (fun _ => 0))), (a2, .inl (cI, 3, .inl (fun _ => 0))), (a3, .inl (cI, 161, .inl (fun _ => 0)))]) rfl rfl inT3 rfl rfl (by decide) tyX3 tyX3_ok nmX3 rfl rfl rfl rfl (Nat.le_of_ble_eq_true rfl) w168 dX3_init_26 rfl ?_
  exact a_vret C B.returns B.notSynchronized (S := Nat × Nat × Nat) (post := fun _ => True) (B := fun u t => va_P D vwCl (mtxC cI q u.1 u.2.1 u.2.2) t.heap ∧ va_D (va_A (mtx0 q) s.heap.size) (mtxC cI q u.1 u.2.1 u.2.2)) (a1, a2, a3) trivial (fun t h1 h2 h3 => ⟨h1, h2⟩) dX3_init_29
def mshC (cI : ClassId) (q a1 : Nat) : va_W := [(q, .inr (2, [.ref a1, .int (-1), .int 0])), (a1, .inl (cI, 40, .inl (fun _ => 0)))]
def msh0 (q : Nat) : va_W := [(q, .inr (2, [.null, .int 0, .int 0]))]
def rmX2_init : Room := { frames := 1, cells := 1, slots := 40, locals := 12 }
set_option maxHeartbeats 4000000 in
set_option maxRecDepth 100000 in
theorem kX2_init (l : Launch) (D : va_G) (cI : ClassId) (q sz : Nat) : Met l mX2_init (.code mX2_init cX2_init 1 none :: TB) rmX2_init (va_Pc [.ref q] (fun U => U.heap.size = sz ∧ va_P D vwCl (msh0 q) U.heap ∧ va_K D vwCl [(cI, .int)] U ∧ va_D (fun _ => True) (msh0 q))) (va_Qv (fun (_ : Nat) => True) (fun u t => va_P D vwCl (mshC cI q u) t.heap ∧ va_D (va_A (msh0 q) sz) (mshC cI q u)) (va_A (msh0 q) sz)) 1 40 (va_A (msh0 q) sz) := by
  refine va_MetF (cc := cX2_init) (maxL := 1) (ret := none) (by decide +kernel) rfl ?_
  intro p e s m args below meth c s₁ B hml hv
  obtain ⟨rfl, hsz, hP, hK, hD0⟩ := hv
  have hts : ∀ w ∈ TB, w.before ([.ref q] : List Value).toArray s = true := fun w hw => atoms_spec (ws := Cond.code mX2_init cX2_init 1 none :: TB) B.pre w (List.mem_cons_of_mem _ hw)
  have hown : s.vm.findClass "KinInTheHeap$Sheet" = some m.cls := findClass_of_methodNamed B.named
  have hin : meth.name = "<init>" := (name_of_methodNamed B.named B.method).1
  subst hsz
  have hD := hD0.self (sz := s.heap.size)
  have hl := lv_entry [.ref q] (n := 1) (Nat.le_of_ble_eq_true rfl)
  rw [lg_entry_eq]
  generalize (lg_sl [.ref q] ++ List.replicate (1 - (lg_sl [.ref q]).length) Slot.unset).toArray = ls at hl ⊢
  have hL : LH ls 1 [some (.ref q)] := ⟨hl.1, hl.2.1, fun i v hi => hl.2.2 (i, v) (pz_mem.mpr ⟨i, (Nat.zero_add i).symm, hi⟩ : (i, v) ∈ pz 0 [some (.ref q)])⟩
  have C : Cy p s m ([.ref q] : List Value).toArray c cX2_init 1 "KinInTheHeap$Sheet" D [(cI, .int)] (va_A (msh0 q) s.heap.size) := ⟨⟨B.exec, B.bytes, hml, hown, hts⟩, hK, fun q h => Or.inr h⟩
  refine (?_ : Aw p l e _ s m _ below meth c D (va_A (msh0 q) s.heap.size) 1 _ [(q, .inr (2, [.null, .int 0, .int 0]))] 0 0 0 [some (.ref q)] []) s.heap [] ls hP hD va_S.rf hL
  refine a_step (fun H locs ls hL k => lv_aload_n C.1.1 C.1.2.1 dX2_init_0 rfl (LH_at hL (i := 0) rfl) k) ?_
  refine a_obj C w186 (Nat.le_of_ble_eq_true rfl) (Nat.le_of_ble_eq_true rfl) dX2_init_1 ?_
  refine a_step (fun H locs ls hL k => lv_aload_n C.1.1 C.1.2.1 dX2_init_4 rfl (LH_at hL (i := 0) rfl) k) ?_
  refine a_step (fun H locs ls hL k => lv_bipush (v := 40) C.1.1 C.1.2.1 dX2_init_5 (by decide) k) ?_
  refine a_newI C (t0 := 0) (N := 40) rfl (by decide) (by decide) (Nat.le_of_ble_eq_true rfl) (Nat.le_of_ble_eq_true rfl) (Nat.le_of_ble_eq_true rfl) dX2_init_7 (fun a1 => ?_)
  refine a_ws (ws' := [(q, .inr (2, [.null, .int 0, .int 0])), (a1, .inl (cI, 40, .inl (fun _ => 0)))]) rfl rfl ?_
  refine a_putF C hin (q0 := 0) (k := 0) (ci := 2) (ty := (.array .int)) (ws' := [(q, .inr (2, [.ref a1, .int 0, .int 0])), (a1, .inl (cI, 40, .inl (fun _ => 0)))]) rfl rfl inT2 rfl rfl (by decide) tyX2 tyX2_ok nmX2 rfl rfl rfl rfl (Nat.le_of_ble_eq_true rfl) w187 dX2_init_9 rfl ?_
  refine a_step (fun H locs ls hL k => lv_aload_n C.1.1 C.1.2.1 dX2_init_12 rfl (LH_at hL (i := 0) rfl) k) ?_
  refine a_step (fun H locs ls hL k => lv_iconst (v := -1) C.1.1 C.1.2.1 dX2_init_13 (by decide) k) ?_
  refine a_put C (q0 := 0) (k := 1) (ci := 2) (ty := .int) (ws' := [(q, .inr (2, [.ref a1, .int (-1), .int 0])), (a1, .inl (cI, 40, .inl (fun _ => 0)))]) rfl rfl inT2 rfl (by decide) tyX2 tyX2_ok nmX2 rfl rfl rfl rfl (Nat.le_of_ble_eq_true rfl) w189 dX2_init_14 rfl ?_
  exact a_vret C B.returns B.notSynchronized (S := Nat) (post := fun _ => True) (B := fun u t => va_P D vwCl (mshC cI q u) t.heap ∧ va_D (va_A (msh0 q) s.heap.size) (mshC cI q u)) a1 trivial (fun t h1 h2 h3 => ⟨h1, h2⟩) dX2_init_17
def mrdC (cI : ClassId) (q a1 a2 a3 a4 : Nat) : va_W := [(q, .inr (1, [.int 0, .ref a1, .ref a2, .ref a3, .ref a4, .int 0, .int 0, .int 0, .int 0])), (a1, .inl (cI, 160, .inl (fun _ => 0))), (a2, .inl (cI, 161, .inl (fun _ => 0))), (a3, .inl (cI, 161, .inl (fun _ => 0))), (a4, .inl (cI, 160, .inl (fun _ => 0)))]
def mrd0 (q : Nat) : va_W := [(q, .inr (1, [.int 0, .null, .null, .null, .null, .int 0, .int 0, .int 0, .int 0]))]
def rmX1_init : Room := { frames := 1, cells := 4, slots := 642, locals := 12 }
set_option maxHeartbeats 4000000 in
set_option maxRecDepth 100000 in
theorem kX1_init (l : Launch) (D : va_G) (cI : ClassId) (q sz : Nat) : Met l mX1_init (.code mX1_init cX1_init 1 none :: TB) rmX1_init (va_Pc [.ref q] (fun U => U.heap.size = sz ∧ va_P D vwCl (mrd0 q) U.heap ∧ va_K D vwCl [(cI, .int)] U ∧ va_D (fun _ => True) (mrd0 q))) (va_Qv (fun (_ : Nat × Nat × Nat × Nat) => True) (fun u t => va_P D vwCl (mrdC cI q u.1 u.2.1 u.2.2.1 u.2.2.2) t.heap ∧ va_D (va_A (mrd0 q) sz) (mrdC cI q u.1 u.2.1 u.2.2.1 u.2.2.2)) (va_A (mrd0 q) sz)) 4 642 (va_A (mrd0 q) sz) := by
  refine va_MetF (cc := cX1_init) (maxL := 1) (ret := none) (by decide +kernel) rfl ?_
  intro p e s m args below meth c s₁ B hml hv
  obtain ⟨rfl, hsz, hP, hK, hD0⟩ := hv
  have hts : ∀ w ∈ TB, w.before ([.ref q] : List Value).toArray s = true := fun w hw => atoms_spec (ws := Cond.code mX1_init cX1_init 1 none :: TB) B.pre w (List.mem_cons_of_mem _ hw)
  have hown : s.vm.findClass "KinInTheHeap$Reader" = some m.cls := findClass_of_methodNamed B.named
  have hin : meth.name = "<init>" := (name_of_methodNamed B.named B.method).1
  subst hsz
  have hD := hD0.self (sz := s.heap.size)
  have hl := lv_entry [.ref q] (n := 1) (Nat.le_of_ble_eq_true rfl)
  rw [lg_entry_eq]
  generalize (lg_sl [.ref q] ++ List.replicate (1 - (lg_sl [.ref q]).length) Slot.unset).toArray = ls at hl ⊢
  have hL : LH ls 1 [some (.ref q)] := ⟨hl.1, hl.2.1, fun i v hi => hl.2.2 (i, v) (pz_mem.mpr ⟨i, (Nat.zero_add i).symm, hi⟩ : (i, v) ∈ pz 0 [some (.ref q)])⟩
  have C : Cy p s m ([.ref q] : List Value).toArray c cX1_init 1 "KinInTheHeap$Reader" D [(cI, .int)] (va_A (mrd0 q) s.heap.size) := ⟨⟨B.exec, B.bytes, hml, hown, hts⟩, hK, fun q h => Or.inr h⟩
  refine (?_ : Aw p l e _ s m _ below meth c D (va_A (mrd0 q) s.heap.size) 1 _ [(q, .inr (1, [.int 0, .null, .null, .null, .null, .int 0, .int 0, .int 0, .int 0]))] 0 0 0 [some (.ref q)] []) s.heap [] ls hP hD va_S.rf hL
  refine a_step (fun H locs ls hL k => lv_aload_n C.1.1 C.1.2.1 dX1_init_0 rfl (LH_at hL (i := 0) rfl) k) ?_
  refine a_obj C w130 (Nat.le_of_ble_eq_true rfl) (Nat.le_of_ble_eq_true rfl) dX1_init_1 ?_
  refine a_step (fun H locs ls hL k => lv_aload_n C.1.1 C.1.2.1 dX1_init_4 rfl (LH_at hL (i := 0) rfl) k) ?_
  refine a_step (fun H locs ls hL k => lv_sipush (v := 160) C.1.1 C.1.2.1 dX1_init_5 (by decide) k) ?_
  refine a_newI C (t0 := 0) (N := 160) rfl (by decide) (by decide) (Nat.le_of_ble_eq_true rfl) (Nat.le_of_ble_eq_true rfl) (Nat.le_of_ble_eq_true rfl) dX1_init_8 (fun a1 => ?_)
  refine a_ws (ws' := [(q, .inr (1, [.int 0, .null, .null, .null, .null, .int 0, .int 0, .int 0, .int 0])), (a1, .inl (cI, 160, .inl (fun _ => 0)))]) rfl rfl ?_
  refine a_putF C hin (q0 := 0) (k := 1) (ci := 1) (ty := (.array .int)) (ws' := [(q, .inr (1, [.int 0, .ref a1, .null, .null, .null, .int 0, .int 0, .int 0, .int 0])), (a1, .inl (cI, 160, .inl (fun _ => 0)))]) rfl rfl inT1 rfl rfl (by decide) tyX1 tyX1_ok nmX1 rfl rfl rfl rfl (Nat.le_of_ble_eq_true rfl) w133 dX1_init_10 rfl ?_
  refine a_step (fun H locs ls hL k => lv_aload_n C.1.1 C.1.2.1 dX1_init_13 rfl (LH_at hL (i := 0) rfl) k) ?_
  refine a_step (fun H locs ls hL k => lv_sipush (v := 161) C.1.1 C.1.2.1 dX1_init_14 (by decide) k) ?_
  refine a_newI C (t0 := 0) (N := 161) rfl (by decide) (by decide) (Nat.le_of_ble_eq_true rfl) (Nat.le_of_ble_eq_true rfl) (Nat.le_of_ble_eq_true rfl) dX1_init_17 (fun a2 => ?_)
  refine a_ws (ws' := [(q, .inr (1, [.int 0, .ref a1, .null, .null, .null, .int 0, .int 0, .int 0, .int 0])), (a1, .inl (cI, 160, .inl (fun _ => 0))), (a2, .inl (cI, 161, .inl (fun _ => 0)))]) rfl rfl ?_
  refine a_putF C hin (q0 := 0) (k := 2) (ci := 1) (ty := (.array .int)) (ws' := [(q, .inr (1, [.int 0, .ref a1, .ref a2, .null, .null, .int 0, .int 0, .int 0, .int 0])), (a1, .inl (cI, 160, .inl (fun _ => 0))), (a2, .inl (cI, 161, .inl (fun _ => 0)))]) rfl rfl inT1 rfl rfl (by decide) tyX1 tyX1_ok nmX1 rfl rfl rfl rfl (Nat.le_of_ble_eq_true rfl) w134 dX1_init_19 rfl ?_
  refine a_step (fun H locs ls hL k => lv_aload_n C.1.1 C.1.2.1 dX1_init_22 rfl (LH_at hL (i := 0) rfl) k) ?_
  refine a_step (fun H locs ls hL k => lv_sipush (v := 161) C.1.1 C.1.2.1 dX1_init_23 (by decide) k) ?_
  refine a_newI C (t0 := 0) (N := 161) rfl (by decide) (by decide) (Nat.le_of_ble_eq_true rfl) (Nat.le_of_ble_eq_true rfl) (Nat.le_of_ble_eq_true rfl) dX1_init_26 (fun a3 => ?_)
  refine a_ws (ws' := [(q, .inr (1, [.int 0, .ref a1, .ref a2, .null, .null, .int 0, .int 0, .int 0, .int 0])), (a1, .inl (cI, 160, .inl (fun _ => 0))), (a2, .inl (cI, 161, .inl (fun _ => 0))), (a3, .inl (cI, 161, .inl (fun _ => 0)))]) rfl rfl ?_
  refine a_putF C hin (q0 := 0) (k := 3) (ci := 1) (ty := (.array .int)) (ws' := [(q, .inr (1, [.int 0, .ref a1, .ref a2, .ref a3, .null, .int 0, .int 0, .int 0, .int 0])), (a1, .inl (cI, 160, .inl (fun _ => 0))), (a2, .inl (cI, 161, .inl (fun _ => 0))), (a3, .inl (cI, 161, .inl (fun _ => 0)))]) rfl rfl inT1 rfl rfl (by decide) tyX1 tyX1_ok nmX1 rfl rfl rfl rfl (Nat.le_of_ble_eq_true rfl) w135 dX1_init_28 rfl ?_
  refine a_step (fun H locs ls hL k => lv_aload_n C.1.1 C.1.2.1 dX1_init_31 rfl (LH_at hL (i := 0) rfl) k) ?_
  refine a_step (fun H locs ls hL k => lv_sipush (v := 160) C.1.1 C.1.2.1 dX1_init_32 (by decide) k) ?_
  refine a_newI C (t0 := 0) (N := 160) rfl (by decide) (by decide) (Nat.le_of_ble_eq_true rfl) (Nat.le_of_ble_eq_true rfl) (Nat.le_of_ble_eq_true rfl) dX1_init_35 (fun a4 => ?_)
  refine a_ws (ws' := [(q, .inr (1, [.int 0, .ref a1, .ref a2, .ref a3, .null, .int 0, .int 0, .int 0, .int 0])), (a1, .inl (cI, 160, .inl (fun _ => 0))), (a2, .inl (cI, 161, .inl (fun _ => 0))), (a3, .inl (cI, 161, .inl (fun _ => 0))), (a4, .inl (cI, 160, .inl (fun _ => 0)))]) rfl rfl ?_
  refine a_putF C hin (q0 := 0) (k := 4) (ci := 1) (ty := (.array .int)) (ws' := [(q, .inr (1, [.int 0, .ref a1, .ref a2, .ref a3, .ref a4, .int 0, .int 0, .int 0, .int 0])), (a1, .inl (cI, 160, .inl (fun _ => 0))), (a2, .inl (cI, 161, .inl (fun _ => 0))), (a3, .inl (cI, 161, .inl (fun _ => 0))), (a4, .inl (cI, 160, .inl (fun _ => 0)))]) rfl rfl inT1 rfl rfl (by decide) tyX1 tyX1_ok nmX1 rfl rfl rfl rfl (Nat.le_of_ble_eq_true rfl) w136 dX1_init_37 rfl ?_
  exact a_vret C B.returns B.notSynchronized (S := Nat × Nat × Nat × Nat) (post := fun _ => True) (B := fun u t => va_P D vwCl (mrdC cI q u.1 u.2.1 u.2.2.1 u.2.2.2) t.heap ∧ va_D (va_A (mrd0 q) s.heap.size) (mrdC cI q u.1 u.2.1 u.2.2.1 u.2.2.2)) (a1, a2, a3, a4) trivial (fun t h1 h2 h3 => ⟨h1, h2⟩) dX1_init_40
def mflC (cI : ClassId) (tt : Nat) (q a1 a2 a3 a4 a5 : Nat) : va_W := [(q, .inr (0, [.ref a1, .ref a2, .ref a3, .long 0, .int 0, .int 3, .int 0, .int 0, .ref tt, .ref a4, .ref a5])), (a1, .inl (cI, 8, .inl (fun _ => 0))), (a2, .inl (cI, 8, .inl (fun _ => 0))), (a3, .inl (cI, 8, .inl (fun _ => 0))), (a4, .inl (cI, 8, .inl (fun _ => 0))), (a5, .inl (cI, 6, .inl (fun _ => 0)))]
def mfl0 (q : Nat) : va_W := [(q, .inr (0, [.null, .null, .null, .long 0, .int 0, .int 0, .int 0, .int 0, .null, .null, .null]))]
def rmX0_init : Room := { frames := 1, cells := 5, slots := 38, locals := 12 }
set_option maxHeartbeats 4000000 in
set_option maxRecDepth 100000 in
theorem kX0_init (l : Launch) (D : va_G) (cI : ClassId) (tt : Nat) (q sz : Nat) : Met l mX0_init (.code mX0_init cX0_init 2 none :: TB) rmX0_init (va_Pc [.ref q, .ref tt] (fun U => U.heap.size = sz ∧ va_P D vwCl (mfl0 q) U.heap ∧ va_K D vwCl [(cI, .int)] U ∧ va_D (fun _ => True) (mfl0 q))) (va_Qv (fun (_ : Nat × Nat × Nat × Nat × Nat) => True) (fun u t => va_P D vwCl (mflC cI tt q u.1 u.2.1 u.2.2.1 u.2.2.2.1 u.2.2.2.2) t.heap ∧ va_D (va_A (mfl0 q) sz) (mflC cI tt q u.1 u.2.1 u.2.2.1 u.2.2.2.1 u.2.2.2.2)) (va_A (mfl0 q) sz)) 5 38 (va_A (mfl0 q) sz) := by
  refine va_MetF (cc := cX0_init) (maxL := 2) (ret := none) (by decide +kernel) rfl ?_
  intro p e s m args below meth c s₁ B hml hv
  obtain ⟨rfl, hsz, hP, hK, hD0⟩ := hv
  have hts : ∀ w ∈ TB, w.before ([.ref q, .ref tt] : List Value).toArray s = true := fun w hw => atoms_spec (ws := Cond.code mX0_init cX0_init 2 none :: TB) B.pre w (List.mem_cons_of_mem _ hw)
  have hown : s.vm.findClass "KinInTheHeap$Floor" = some m.cls := findClass_of_methodNamed B.named
  have hin : meth.name = "<init>" := (name_of_methodNamed B.named B.method).1
  subst hsz
  have hD := hD0.self (sz := s.heap.size)
  have hl := lv_entry [.ref q, .ref tt] (n := 2) (Nat.le_of_ble_eq_true rfl)
  rw [lg_entry_eq]
  generalize (lg_sl [.ref q, .ref tt] ++ List.replicate (2 - (lg_sl [.ref q, .ref tt]).length) Slot.unset).toArray = ls at hl ⊢
  have hL : LH ls 2 [some (.ref q), some (.ref tt)] := ⟨hl.1, hl.2.1, fun i v hi => hl.2.2 (i, v) (pz_mem.mpr ⟨i, (Nat.zero_add i).symm, hi⟩ : (i, v) ∈ pz 0 [some (.ref q), some (.ref tt)])⟩
  have C : Cy p s m ([.ref q, .ref tt] : List Value).toArray c cX0_init 2 "KinInTheHeap$Floor" D [(cI, .int)] (va_A (mfl0 q) s.heap.size) := ⟨⟨B.exec, B.bytes, hml, hown, hts⟩, hK, fun q h => Or.inr h⟩
  refine (?_ : Aw p l e _ s m _ below meth c D (va_A (mfl0 q) s.heap.size) 2 _ [(q, .inr (0, [.null, .null, .null, .long 0, .int 0, .int 0, .int 0, .int 0, .null, .null, .null]))] 0 0 0 [some (.ref q), some (.ref tt)] []) s.heap [] ls hP hD va_S.rf hL
  refine a_step (fun H locs ls hL k => lv_aload_n C.1.1 C.1.2.1 dX0_init_0 rfl (LH_at hL (i := 0) rfl) k) ?_
  refine a_obj C w221 (Nat.le_of_ble_eq_true rfl) (Nat.le_of_ble_eq_true rfl) dX0_init_1 ?_
  refine a_step (fun H locs ls hL k => lv_aload_n C.1.1 C.1.2.1 dX0_init_4 rfl (LH_at hL (i := 0) rfl) k) ?_
  refine a_step (fun H locs ls hL k => lv_bipush (v := 8) C.1.1 C.1.2.1 dX0_init_5 (by decide) k) ?_
  refine a_newI C (t0 := 0) (N := 8) rfl (by decide) (by decide) (Nat.le_of_ble_eq_true rfl) (Nat.le_of_ble_eq_true rfl) (Nat.le_of_ble_eq_true rfl) dX0_init_7 (fun a1 => ?_)
  refine a_ws (ws' := [(q, .inr (0, [.null, .null, .null, .long 0, .int 0, .int 0, .int 0, .int 0, .null, .null, .null])), (a1, .inl (cI, 8, .inl (fun _ => 0)))]) rfl rfl ?_
  refine a_putF C hin (q0 := 0) (k := 0) (ci := 0) (ty := (.array .int)) (ws' := [(q, .inr (0, [.ref a1, .null, .null, .long 0, .int 0, .int 0, .int 0, .int 0, .null, .null, .null])), (a1, .inl (cI, 8, .inl (fun _ => 0)))]) rfl rfl inT0 rfl rfl (by decide) tyX0 tyX0_ok nmX0 rfl rfl rfl rfl (Nat.le_of_ble_eq_true rfl) w222 dX0_init_9 rfl ?_
  refine a_step (fun H locs ls hL k => lv_aload_n C.1.1 C.1.2.1 dX0_init_12 rfl (LH_at hL (i := 0) rfl) k) ?_
  refine a_step (fun H locs ls hL k => lv_bipush (v := 8) C.1.1 C.1.2.1 dX0_init_13 (by decide) k) ?_
  refine a_newI C (t0 := 0) (N := 8) rfl (by decide) (by decide) (Nat.le_of_ble_eq_true rfl) (Nat.le_of_ble_eq_true rfl) (Nat.le_of_ble_eq_true rfl) dX0_init_15 (fun a2 => ?_)
  refine a_ws (ws' := [(q, .inr (0, [.ref a1, .null, .null, .long 0, .int 0, .int 0, .int 0, .int 0, .null, .null, .null])), (a1, .inl (cI, 8, .inl (fun _ => 0))), (a2, .inl (cI, 8, .inl (fun _ => 0)))]) rfl rfl ?_
  refine a_putF C hin (q0 := 0) (k := 1) (ci := 0) (ty := (.array .int)) (ws' := [(q, .inr (0, [.ref a1, .ref a2, .null, .long 0, .int 0, .int 0, .int 0, .int 0, .null, .null, .null])), (a1, .inl (cI, 8, .inl (fun _ => 0))), (a2, .inl (cI, 8, .inl (fun _ => 0)))]) rfl rfl inT0 rfl rfl (by decide) tyX0 tyX0_ok nmX0 rfl rfl rfl rfl (Nat.le_of_ble_eq_true rfl) w224 dX0_init_17 rfl ?_
  refine a_step (fun H locs ls hL k => lv_aload_n C.1.1 C.1.2.1 dX0_init_20 rfl (LH_at hL (i := 0) rfl) k) ?_
  refine a_step (fun H locs ls hL k => lv_bipush (v := 8) C.1.1 C.1.2.1 dX0_init_21 (by decide) k) ?_
  refine a_newI C (t0 := 0) (N := 8) rfl (by decide) (by decide) (Nat.le_of_ble_eq_true rfl) (Nat.le_of_ble_eq_true rfl) (Nat.le_of_ble_eq_true rfl) dX0_init_23 (fun a3 => ?_)
  refine a_ws (ws' := [(q, .inr (0, [.ref a1, .ref a2, .null, .long 0, .int 0, .int 0, .int 0, .int 0, .null, .null, .null])), (a1, .inl (cI, 8, .inl (fun _ => 0))), (a2, .inl (cI, 8, .inl (fun _ => 0))), (a3, .inl (cI, 8, .inl (fun _ => 0)))]) rfl rfl ?_
  refine a_putF C hin (q0 := 0) (k := 2) (ci := 0) (ty := (.array .int)) (ws' := [(q, .inr (0, [.ref a1, .ref a2, .ref a3, .long 0, .int 0, .int 0, .int 0, .int 0, .null, .null, .null])), (a1, .inl (cI, 8, .inl (fun _ => 0))), (a2, .inl (cI, 8, .inl (fun _ => 0))), (a3, .inl (cI, 8, .inl (fun _ => 0)))]) rfl rfl inT0 rfl rfl (by decide) tyX0 tyX0_ok nmX0 rfl rfl rfl rfl (Nat.le_of_ble_eq_true rfl) w226 dX0_init_25 rfl ?_
  refine a_step (fun H locs ls hL k => lv_aload_n C.1.1 C.1.2.1 dX0_init_28 rfl (LH_at hL (i := 0) rfl) k) ?_
  refine a_step (fun H locs ls hL k => lv_iconst (v := 3) C.1.1 C.1.2.1 dX0_init_29 (by decide) k) ?_
  refine a_put C (q0 := 0) (k := 5) (ci := 0) (ty := .int) (ws' := [(q, .inr (0, [.ref a1, .ref a2, .ref a3, .long 0, .int 0, .int 3, .int 0, .int 0, .null, .null, .null])), (a1, .inl (cI, 8, .inl (fun _ => 0))), (a2, .inl (cI, 8, .inl (fun _ => 0))), (a3, .inl (cI, 8, .inl (fun _ => 0)))]) rfl rfl inT0 rfl (by decide) tyX0 tyX0_ok nmX0 rfl rfl rfl rfl (Nat.le_of_ble_eq_true rfl) w232 dX0_init_30 rfl ?_
  refine a_step (fun H locs ls hL k => lv_aload_n C.1.1 C.1.2.1 dX0_init_33 rfl (LH_at hL (i := 0) rfl) k) ?_
  refine a_step (fun H locs ls hL k => lv_bipush (v := 8) C.1.1 C.1.2.1 dX0_init_34 (by decide) k) ?_
  refine a_newI C (t0 := 0) (N := 8) rfl (by decide) (by decide) (Nat.le_of_ble_eq_true rfl) (Nat.le_of_ble_eq_true rfl) (Nat.le_of_ble_eq_true rfl) dX0_init_36 (fun a4 => ?_)
  refine a_ws (ws' := [(q, .inr (0, [.ref a1, .ref a2, .ref a3, .long 0, .int 0, .int 3, .int 0, .int 0, .null, .null, .null])), (a1, .inl (cI, 8, .inl (fun _ => 0))), (a2, .inl (cI, 8, .inl (fun _ => 0))), (a3, .inl (cI, 8, .inl (fun _ => 0))), (a4, .inl (cI, 8, .inl (fun _ => 0)))]) rfl rfl ?_
  refine a_putF C hin (q0 := 0) (k := 9) (ci := 0) (ty := (.array .int)) (ws' := [(q, .inr (0, [.ref a1, .ref a2, .ref a3, .long 0, .int 0, .int 3, .int 0, .int 0, .null, .ref a4, .null])), (a1, .inl (cI, 8, .inl (fun _ => 0))), (a2, .inl (cI, 8, .inl (fun _ => 0))), (a3, .inl (cI, 8, .inl (fun _ => 0))), (a4, .inl (cI, 8, .inl (fun _ => 0)))]) rfl rfl inT0 rfl rfl (by decide) tyX0 tyX0_ok nmX0 rfl rfl rfl rfl (Nat.le_of_ble_eq_true rfl) w239 dX0_init_38 rfl ?_
  refine a_step (fun H locs ls hL k => lv_aload_n C.1.1 C.1.2.1 dX0_init_41 rfl (LH_at hL (i := 0) rfl) k) ?_
  refine a_step (fun H locs ls hL k => lv_bipush (v := 6) C.1.1 C.1.2.1 dX0_init_42 (by decide) k) ?_
  refine a_newI C (t0 := 0) (N := 6) rfl (by decide) (by decide) (Nat.le_of_ble_eq_true rfl) (Nat.le_of_ble_eq_true rfl) (Nat.le_of_ble_eq_true rfl) dX0_init_44 (fun a5 => ?_)
  refine a_ws (ws' := [(q, .inr (0, [.ref a1, .ref a2, .ref a3, .long 0, .int 0, .int 3, .int 0, .int 0, .null, .ref a4, .null])), (a1, .inl (cI, 8, .inl (fun _ => 0))), (a2, .inl (cI, 8, .inl (fun _ => 0))), (a3, .inl (cI, 8, .inl (fun _ => 0))), (a4, .inl (cI, 8, .inl (fun _ => 0))), (a5, .inl (cI, 6, .inl (fun _ => 0)))]) rfl rfl ?_
  refine a_putF C hin (q0 := 0) (k := 10) (ci := 0) (ty := (.array .int)) (ws' := [(q, .inr (0, [.ref a1, .ref a2, .ref a3, .long 0, .int 0, .int 3, .int 0, .int 0, .null, .ref a4, .ref a5])), (a1, .inl (cI, 8, .inl (fun _ => 0))), (a2, .inl (cI, 8, .inl (fun _ => 0))), (a3, .inl (cI, 8, .inl (fun _ => 0))), (a4, .inl (cI, 8, .inl (fun _ => 0))), (a5, .inl (cI, 6, .inl (fun _ => 0)))]) rfl rfl inT0 rfl rfl (by decide) tyX0 tyX0_ok nmX0 rfl rfl rfl rfl (Nat.le_of_ble_eq_true rfl) w240 dX0_init_46 rfl ?_
  refine a_step (fun H locs ls hL k => lv_aload_n C.1.1 C.1.2.1 dX0_init_49 rfl (LH_at hL (i := 0) rfl) k) ?_
  refine a_step (fun H locs ls hL k => lv_aload_n C.1.1 C.1.2.1 dX0_init_50 rfl (LH_at hL (i := 1) rfl) k) ?_
  refine a_putF C hin (q0 := 0) (k := 8) (ci := 0) (ty := (.array (.object "KinInTheHeap$Text"))) (ws' := [(q, .inr (0, [.ref a1, .ref a2, .ref a3, .long 0, .int 0, .int 3, .int 0, .int 0, .ref tt, .ref a4, .ref a5])), (a1, .inl (cI, 8, .inl (fun _ => 0))), (a2, .inl (cI, 8, .inl (fun _ => 0))), (a3, .inl (cI, 8, .inl (fun _ => 0))), (a4, .inl (cI, 8, .inl (fun _ => 0))), (a5, .inl (cI, 6, .inl (fun _ => 0)))]) rfl rfl inT0 rfl rfl (by decide) tyX0 tyX0_ok nmX0 rfl rfl rfl rfl (Nat.le_of_ble_eq_true rfl) w238 dX0_init_51 rfl ?_
  exact a_vret C B.returns B.notSynchronized (S := Nat × Nat × Nat × Nat × Nat) (post := fun _ => True) (B := fun u t => va_P D vwCl (mflC cI tt q u.1 u.2.1 u.2.2.1 u.2.2.2.1 u.2.2.2.2) t.heap ∧ va_D (va_A (mfl0 q) s.heap.size) (mflC cI tt q u.1 u.2.1 u.2.2.1 u.2.2.2.1 u.2.2.2.2)) (a1, a2, a3, a4, a5) trivial (fun t h1 h2 h3 => ⟨h1, h2⟩) dX0_init_54
theorem a_mk3 {p : Program} {l : Launch} {e : Env} {R : Room} {s : State} {m : MethodId} {args : Array Value} {below : List Frame} {meth : Method} {c : Code} {D : va_G} {A : Nat → Prop} {nL : Nat} {Q : State → Prop} {ws : va_W} {cells slots : Nat} {pc : Nat} {lv : List (Option Value)} {st : List Value} {cc : ByteArray} {tys : List (ClassId × FieldType)} {cI : ClassId} (C : Cy p s m args c cc nL "KinInTheHeap" D tys A) (ht : tys[0]? = some (cI, .int)) (hnw : va_Nw (.methodLinkNest "KinInTheHeap" 28 mX3_init "KinInTheHeap") s) (hd1 : decode cc pc = .ok (.new 9, 3)) (hd2 : decode cc (pc + 3) = .ok (.dup, 1)) (hd3 : decode cc (pc + 4) = .ok (.invokespecial 28, 3)) (hf : 2 ≤ R.frames ∧ 8 + (1 + 11) + 12 ≤ R.locals) (hcat : (st.map fun v => v.category).sum ≤ 7) (hc : cells + 4 ≤ R.cells) (hs : slots + 329 ≤ R.slots) (kk : ∀ q a1 a2 a3 : Nat, Aw p l e R s m args below meth c D A nL Q (ws ++ mtxC cI q a1 a2 a3) (cells + 4) (slots + 329) (pc + 7) lv (.ref q :: st)) : Aw p l e R s m args below meth c D A nL Q ws cells slots pc lv st := by
  intro H locs ls hP hD hS hL
  refine va_new (D := D) (tys := tys) (ci := 3) (fs := [.null, .null, .null, .int 0, .int 0]) (C := RX3) (T := TX3) (N := 5) C.1.1 C.1.2.1 C.1.2.2.2.2 inT3 tyX3 tyX3_ok C.1.2.2.2.1 (C.1.2.2.2.2 _ w121) (C.1.2.2.2.2 _ w161) (C.1.2.2.2.2 _ w100) C.2.1 hP hD hS C.2.2 rfl (fun j hj => by rcases (show j = 0 ∨ j = 1 ∨ j = 2 ∨ j = 3 ∨ j = 4 by omega) with rfl | rfl | rfl | rfl | rfl <;> rfl) (by omega) (by omega) hd1 (fun q H1 hP1 hD1 hS1 => ?_)
  refine lv_dup C.1.1 C.1.2.1 hd2 rfl ?_
  have hFc : ∀ x, va_A (mtx0 q) H1.size x → A x := fun x hx => by
    rcases hx with ⟨k, e', hk⟩ | hx
    · have h0 : k = 0 := by
        have := (List.getElem?_eq_some_iff.mp hk).1
        simp [mtx0] at this
        omega
      subst h0
      cases hk
      exact hD1.2 ws.length _ (by rw [List.getElem?_append_right (Nat.le_refl _), Nat.sub_self]; rfl)
    · exact C.2.2 x (Nat.le_trans hS1.1 hx)
  have hPc : va_P D vwCl (mtx0 q) H1 := fun k x hx => by
    have h0 : k = 0 := by
      have := (List.getElem?_eq_some_iff.mp hx).1
      simp [mtx0] at this
      omega
    subst h0
    exact hP1 ws.length x (by rw [List.getElem?_append_right (Nat.le_refl _), Nat.sub_self]; exact hx)
  have hDc : va_D (fun _ => True) (mtx0 q) := ⟨fun i j a b hi hj _ => by
    have h1 := (List.getElem?_eq_some_iff.mp hi).1
    have h2 := (List.getElem?_eq_some_iff.mp hj).1
    simp [mtx0] at h1 h2
    omega, fun _ _ _ => trivial⟩
  refine va_callv (va_runIN (As := []) (rest := .ref q :: st) C.1 (kX3_init l D cI q H1.size) ⟨va_cnB 0 C.1.2.2.2.2 (goodTB w164) rfl rfl rfl hnw (C.1.2.2.2.2 _ w100) (by decide +kernel) hf, rfl, C.1.2.2.2.2 _ w163⟩ ⟨fun a U g mk q => by obtain ⟨q0, q1, qP, qK, qD⟩ := q; exact ⟨q0, q1, qP, va_K.moved (u := U) (U := U.calling g mk a) (Vm.Alike.refl U.vm) qK, qD⟩, fun U hU hW => ⟨rfl, by rw [hU], by rw [hU]; exact hPc, va_K.moved hW.alike ⟨C.2.1.1, fun k x hx => by
    have h0 : k = 0 := by
      have := (List.getElem?_eq_some_iff.mp hx).1
      simp at this
      omega
    subst h0
    cases hx
    exact C.2.1.2 0 _ ht⟩, hDc⟩⟩ rfl rfl hL.1 rfl (lv_room (by rw [List.map_cons, List.sum_cons]; show (1 + (st.map fun v => v.category).sum : Nat) ≤ 8; omega)) hd3 ⟨by show cells + 1 + 3 ≤ _; omega, by show slots + 5 + 324 ≤ _; omega⟩) hS1 (fun x _ h => hFc x h) hFc (fun u t H2 locs2 ht2 hvm _ hB hz hk2 hS2 => ?_)
  obtain ⟨a1, a2, a3⟩ := u
  obtain ⟨hP2, hD2⟩ := hB
  rw [ht2] at hP2
  obtain ⟨hP3, hD3⟩ := joinMid (X := ws) (cx := mtx0 q) (Y := []) (w1 := mtxC cI q a1 a2 a3) (by simpa [mtx0] using hP1) (by simpa [mtx0] using hD1) hk2 hFc hP2 hD2
  rw [List.append_nil] at hP3 hD3
  exact kk q a1 a2 a3 H2 locs2 ls hP3 hD3 hS2 hL
theorem a_mk2 {p : Program} {l : Launch} {e : Env} {R : Room} {s : State} {m : MethodId} {args : Array Value} {below : List Frame} {meth : Method} {c : Code} {D : va_G} {A : Nat → Prop} {nL : Nat} {Q : State → Prop} {ws : va_W} {cells slots : Nat} {pc : Nat} {lv : List (Option Value)} {st : List Value} {cc : ByteArray} {tys : List (ClassId × FieldType)} {cI : ClassId} (C : Cy p s m args c cc nL "KinInTheHeap" D tys A) (ht : tys[0]? = some (cI, .int)) (hnw : va_Nw (.methodLinkNest "KinInTheHeap" 29 mX2_init "KinInTheHeap") s) (hd1 : decode cc pc = .ok (.new 15, 3)) (hd2 : decode cc (pc + 3) = .ok (.dup, 1)) (hd3 : decode cc (pc + 4) = .ok (.invokespecial 29, 3)) (hf : 2 ≤ R.frames ∧ 8 + (1 + 11) + 12 ≤ R.locals) (hcat : (st.map fun v => v.category).sum ≤ 7) (hc : cells + 2 ≤ R.cells) (hs : slots + 43 ≤ R.slots) (kk : ∀ q a1 : Nat, Aw p l e R s m args below meth c D A nL Q (ws ++ mshC cI q a1) (cells + 2) (slots + 43) (pc + 7) lv (.ref q :: st)) : Aw p l e R s m args below meth c D A nL Q ws cells slots pc lv st := by
  intro H locs ls hP hD hS hL
  refine va_new (D := D) (tys := tys) (ci := 2) (fs := [.null, .int 0, .int 0]) (C := RX2) (T := TX2) (N := 3) C.1.1 C.1.2.1 C.1.2.2.2.2 inT2 tyX2 tyX2_ok C.1.2.2.2.1 (C.1.2.2.2.2 _ w123) (C.1.2.2.2.2 _ w182) (C.1.2.2.2.2 _ w101) C.2.1 hP hD hS C.2.2 rfl (fun j hj => by rcases (show j = 0 ∨ j = 1 ∨ j = 2 by omega) with rfl | rfl | rfl <;> rfl) (by omega) (by omega) hd1 (fun q H1 hP1 hD1 hS1 => ?_)
  refine lv_dup C.1.1 C.1.2.1 hd2 rfl ?_
  have hFc : ∀ x, va_A (msh0 q) H1.size x → A x := fun x hx => by
    rcases hx with ⟨k, e', hk⟩ | hx
    · have h0 : k = 0 := by
        have := (List.getElem?_eq_some_iff.mp hk).1
        simp [msh0] at this
        omega
      subst h0
      cases hk
      exact hD1.2 ws.length _ (by rw [List.getElem?_append_right (Nat.le_refl _), Nat.sub_self]; rfl)
    · exact C.2.2 x (Nat.le_trans hS1.1 hx)
  have hPc : va_P D vwCl (msh0 q) H1 := fun k x hx => by
    have h0 : k = 0 := by
      have := (List.getElem?_eq_some_iff.mp hx).1
      simp [msh0] at this
      omega
    subst h0
    exact hP1 ws.length x (by rw [List.getElem?_append_right (Nat.le_refl _), Nat.sub_self]; exact hx)
  have hDc : va_D (fun _ => True) (msh0 q) := ⟨fun i j a b hi hj _ => by
    have h1 := (List.getElem?_eq_some_iff.mp hi).1
    have h2 := (List.getElem?_eq_some_iff.mp hj).1
    simp [msh0] at h1 h2
    omega, fun _ _ _ => trivial⟩
  refine va_callv (va_runIN (As := []) (rest := .ref q :: st) C.1 (kX2_init l D cI q H1.size) ⟨va_cnB 0 C.1.2.2.2.2 (goodTB w185) rfl rfl rfl hnw (C.1.2.2.2.2 _ w101) (by decide +kernel) hf, rfl, C.1.2.2.2.2 _ w184⟩ ⟨fun a U g mk q => by obtain ⟨q0, q1, qP, qK, qD⟩ := q; exact ⟨q0, q1, qP, va_K.moved (u := U) (U := U.calling g mk a) (Vm.Alike.refl U.vm) qK, qD⟩, fun U hU hW => ⟨rfl, by rw [hU], by rw [hU]; exact hPc, va_K.moved hW.alike ⟨C.2.1.1, fun k x hx => by
    have h0 : k = 0 := by
      have := (List.getElem?_eq_some_iff.mp hx).1
      simp at this
      omega
    subst h0
    cases hx
    exact C.2.1.2 0 _ ht⟩, hDc⟩⟩ rfl rfl hL.1 rfl (lv_room (by rw [List.map_cons, List.sum_cons]; show (1 + (st.map fun v => v.category).sum : Nat) ≤ 8; omega)) hd3 ⟨by show cells + 1 + 1 ≤ _; omega, by show slots + 3 + 40 ≤ _; omega⟩) hS1 (fun x _ h => hFc x h) hFc (fun u t H2 locs2 ht2 hvm _ hB hz hk2 hS2 => ?_)
  obtain ⟨a1, rfl⟩ : ∃ z, z = u := ⟨u, rfl⟩
  obtain ⟨hP2, hD2⟩ := hB
  rw [ht2] at hP2
  obtain ⟨hP3, hD3⟩ := joinMid (X := ws) (cx := msh0 q) (Y := []) (w1 := mshC cI q a1) (by simpa [msh0] using hP1) (by simpa [msh0] using hD1) hk2 hFc hP2 hD2
  rw [List.append_nil] at hP3 hD3
  exact kk q a1 H2 locs2 ls hP3 hD3 hS2 hL
theorem a_mk1 {p : Program} {l : Launch} {e : Env} {R : Room} {s : State} {m : MethodId} {args : Array Value} {below : List Frame} {meth : Method} {c : Code} {D : va_G} {A : Nat → Prop} {nL : Nat} {Q : State → Prop} {ws : va_W} {cells slots : Nat} {pc : Nat} {lv : List (Option Value)} {st : List Value} {cc : ByteArray} {tys : List (ClassId × FieldType)} {cI : ClassId} (C : Cy p s m args c cc nL "KinInTheHeap" D tys A) (ht : tys[0]? = some (cI, .int)) (hnw : va_Nw (.methodLinkNest "KinInTheHeap" 23 mX1_init "KinInTheHeap") s) (hd1 : decode cc pc = .ok (.new 21, 3)) (hd2 : decode cc (pc + 3) = .ok (.dup, 1)) (hd3 : decode cc (pc + 4) = .ok (.invokespecial 23, 3)) (hf : 2 ≤ R.frames ∧ 8 + (1 + 11) + 12 ≤ R.locals) (hcat : (st.map fun v => v.category).sum ≤ 7) (hc : cells + 5 ≤ R.cells) (hs : slots + 651 ≤ R.slots) (kk : ∀ q a1 a2 a3 a4 : Nat, Aw p l e R s m args below meth c D A nL Q (ws ++ mrdC cI q a1 a2 a3 a4) (cells + 5) (slots + 651) (pc + 7) lv (.ref q :: st)) : Aw p l e R s m args below meth c D A nL Q ws cells slots pc lv st := by
  intro H locs ls hP hD hS hL
  refine va_new (D := D) (tys := tys) (ci := 1) (fs := [.int 0, .null, .null, .null, .null, .int 0, .int 0, .int 0, .int 0]) (C := RX1) (T := TX1) (N := 9) C.1.1 C.1.2.1 C.1.2.2.2.2 inT1 tyX1 tyX1_ok C.1.2.2.2.1 (C.1.2.2.2.2 _ w125) (C.1.2.2.2.2 _ w126) (C.1.2.2.2.2 _ w99) C.2.1 hP hD hS C.2.2 rfl (fun j hj => by rcases (show j = 0 ∨ j = 1 ∨ j = 2 ∨ j = 3 ∨ j = 4 ∨ j = 5 ∨ j = 6 ∨ j = 7 ∨ j = 8 by omega) with rfl | rfl | rfl | rfl | rfl | rfl | rfl | rfl | rfl <;> rfl) (by omega) (by omega) hd1 (fun q H1 hP1 hD1 hS1 => ?_)
  refine lv_dup C.1.1 C.1.2.1 hd2 rfl ?_
  have hFc : ∀ x, va_A (mrd0 q) H1.size x → A x := fun x hx => by
    rcases hx with ⟨k, e', hk⟩ | hx
    · have h0 : k = 0 := by
        have := (List.getElem?_eq_some_iff.mp hk).1
        simp [mrd0] at this
        omega
      subst h0
      cases hk
      exact hD1.2 ws.length _ (by rw [List.getElem?_append_right (Nat.le_refl _), Nat.sub_self]; rfl)
    · exact C.2.2 x (Nat.le_trans hS1.1 hx)
  have hPc : va_P D vwCl (mrd0 q) H1 := fun k x hx => by
    have h0 : k = 0 := by
      have := (List.getElem?_eq_some_iff.mp hx).1
      simp [mrd0] at this
      omega
    subst h0
    exact hP1 ws.length x (by rw [List.getElem?_append_right (Nat.le_refl _), Nat.sub_self]; exact hx)
  have hDc : va_D (fun _ => True) (mrd0 q) := ⟨fun i j a b hi hj _ => by
    have h1 := (List.getElem?_eq_some_iff.mp hi).1
    have h2 := (List.getElem?_eq_some_iff.mp hj).1
    simp [mrd0] at h1 h2
    omega, fun _ _ _ => trivial⟩
  refine va_callv (va_runIN (As := []) (rest := .ref q :: st) C.1 (kX1_init l D cI q H1.size) ⟨va_cnB 0 C.1.2.2.2.2 (goodTB w129) rfl rfl rfl hnw (C.1.2.2.2.2 _ w99) (by decide +kernel) hf, rfl, C.1.2.2.2.2 _ w128⟩ ⟨fun a U g mk q => by obtain ⟨q0, q1, qP, qK, qD⟩ := q; exact ⟨q0, q1, qP, va_K.moved (u := U) (U := U.calling g mk a) (Vm.Alike.refl U.vm) qK, qD⟩, fun U hU hW => ⟨rfl, by rw [hU], by rw [hU]; exact hPc, va_K.moved hW.alike ⟨C.2.1.1, fun k x hx => by
    have h0 : k = 0 := by
      have := (List.getElem?_eq_some_iff.mp hx).1
      simp at this
      omega
    subst h0
    cases hx
    exact C.2.1.2 0 _ ht⟩, hDc⟩⟩ rfl rfl hL.1 rfl (lv_room (by rw [List.map_cons, List.sum_cons]; show (1 + (st.map fun v => v.category).sum : Nat) ≤ 8; omega)) hd3 ⟨by show cells + 1 + 4 ≤ _; omega, by show slots + 9 + 642 ≤ _; omega⟩) hS1 (fun x _ h => hFc x h) hFc (fun u t H2 locs2 ht2 hvm _ hB hz hk2 hS2 => ?_)
  obtain ⟨a1, a2, a3, a4⟩ := u
  obtain ⟨hP2, hD2⟩ := hB
  rw [ht2] at hP2
  obtain ⟨hP3, hD3⟩ := joinMid (X := ws) (cx := mrd0 q) (Y := []) (w1 := mrdC cI q a1 a2 a3 a4) (by simpa [mrd0] using hP1) (by simpa [mrd0] using hD1) hk2 hFc hP2 hD2
  rw [List.append_nil] at hP3 hD3
  exact kk q a1 a2 a3 a4 H2 locs2 ls hP3 hD3 hS2 hL
