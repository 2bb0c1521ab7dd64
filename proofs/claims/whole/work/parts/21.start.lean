theorem ZS.go {cs : CS} {A B : Nat → Prop} {s U : State} {H : Heap} {locs : List Loc} (h : ZS cs A s s.heap) (hS : va_S A s.heap H locs) (hU : U.heap = H) (hW : s.WarmedH U.vm) (hAB : ∀ q, B q → A q) : ZS cs B U U.heap := by
  obtain ⟨z1, z2, z3, ⟨v, zc, z4⟩, z5, z6⟩ := h
  rw [hU]
  refine ⟨?_, ?_, ?_, ⟨v, zc, ?_⟩, ?_, ?_⟩
  · exact ((z1.kept hS.2.1).moved hW.alike).narrow hAB
  · exact ((z2.kept hS.2.1).moved hW.alike).narrow hAB
  · exact ((z3.kept hS.2.1).moved hW.alike).narrow hAB
  · exact ((z4.kept hS.2.1).moved hW.alike).narrow hAB
  · exact ((z5.kept hS.2.1).moved hW.alike).narrow hAB
  · exact fun i hi => vk_R.warm hW (z6 i hi)
theorem ZS.blind {cs : CS} {A : Nat → Prop} {U : State} {f : JFrame} {mk : MethodId} {a : Array Value} (h : ZS cs A U U.heap) : ZS cs A (U.calling f mk a) (U.calling f mk a).heap := by
  obtain ⟨z1, z2, z3, ⟨v, zc, z4⟩, z5, z6⟩ := h
  have hal : U.vm.Alike (U.calling f mk a).vm := Vm.Alike.refl U.vm
  exact ⟨va_Z.moved hal z1, va_T.moved hal z2, va_Z.moved hal z3, ⟨v, zc, va_Z.moved hal z4⟩, vk_S.moved hal z5, fun i hi => vk_R.same rfl (z6 i hi)⟩
theorem ZS_of {s : State} {args : Array Value} (hf : ∀ c ∈ FLt, c.before args s = true) (hts : ∀ w ∈ lw_tbl, w.before args s = true) : ∃ cs : CS, ZS cs (fun q => s.heap.size ≤ q) s s.heap := by
  have hA : ∀ a : Nat, a < s.heap.size → ¬ (s.heap.size ≤ a) := fun a h => Nat.not_le.mpr h
  obtain ⟨t, ht, hT⟩ := va_Tof (A := fun q => s.heap.size ≤ q) (N := 6) (f := fun j => .int (aboveV j)) (by decide) (hf _ nf_1.1) (va_eqt (hf _ nf_1.2.1)) (fun j hj => va_eqt (hf _ (nf_ab j hj))) hA
  obtain ⟨adK, adV, hS, hk⟩ := vk_Sof (args := args) (s := s) (N := 13) (tm := strTm) (len := strL) (byt := strB) (A := fun q => s.heap.size ≤ q) (by decide) (fun i hi => hf _ (nf_ex i hi)) (fun i hi => hf _ (nf_co i hi)) (fun i hi => hf _ (nf_ar i hi)) (fun i hi => hf _ (nf_le i hi)) (fun i hi j hj => hf _ (nf_el i hi j hj)) (fun i j hi hj hne => (nf_ne i hi j hj hne).elim (fun h => Or.inl (hf _ h)) (fun h => Or.inr (hf _ h))) hA
  refine ⟨(t, adK, adV), va_Zof (hts _ nf_st.1) (hts _ nf_st.2.2.2.1) ht hA, hT, va_Zof (hts _ nf_st.2.1) (hts _ nf_st.2.2.2.2.1) (va_eqt (hf _ nf_1.2.2.1)) hA, ?_, hS, fun i hi => ?_⟩
  · rcases va_Zqof (A := fun q => s.heap.size ≤ q) (hts _ nf_st.2.2.1) (hts _ nf_st.2.2.2.2.2) (hf _ nf_1.2.2.2) hA with h | ⟨t, h⟩
    · exact ⟨.null, rfl, h⟩
    · exact ⟨.ref t, rfl, h⟩
  · have h1 := hts _ (nf_sr i hi)
    have h2 := hk i hi
    exact vk_R.of h1 h2
set_option maxHeartbeats 40000000 in
set_option maxRecDepth 100000 in
theorem whole_start_of {Rl : Mem → Mem → Prop} (hst : Steps Rl) (h0 : Rl mem0 memM0) {p : Program} {e : Env} {s : State} {m : MethodId} {below : List Frame} {meth : Method} {c : Code} (l : Launch) {b L : Nat} {xs : Nat → Int32} (hL3 : L ≤ 3072) (C0 : lw_At p s m meth c b L xs) : W p l e room_1 s m #[Value.ref b] below meth c s.heap [] 0 0 (lw_Z below #[Value.ref b] s) (entryFrame m ([Value.ref b] : List Value).toArray 4) := by
  obtain ⟨hx, hb, hr, hml, hown, hts, hX, hbl, hlocks, hgv⟩ := id C0
  have hTB : ∀ w ∈ TB, w.before #[Value.ref b] s = true := fun w h => hts w (tb_sub w h)
  have hf : ∀ c ∈ FLt, c.before #[Value.ref b] s = true := flat_of_before _ hgv
  obtain ⟨cs, hZ⟩ := ZS_of hf hts
  obtain ⟨k0, i0, hk0⟩ := u_known (C := RX0) (T := TX0) (N := 11) (n := 11) hTB inT0 (hTB _ w217)
  obtain ⟨k1, i1, hk1⟩ := u_known (C := RX1) (T := TX1) (N := 9) (n := 9) hTB inT1 (hTB _ w126)
  obtain ⟨k2, i2, hk2⟩ := u_known (C := RX2) (T := TX2) (N := 3) (n := 3) hTB inT2 (hTB _ w182)
  obtain ⟨k3, i3, hk3⟩ := u_known (C := RX3) (T := TX3) (N := 5) (n := 5) hTB inT3 (hTB _ w161)
  obtain ⟨k4, i4, hk4⟩ := u_known (C := RX4) (T := TX4) (N := 9) (n := 9) hTB inT4 (hTB _ w114)
  obtain ⟨k5, i5, hk5⟩ := u_known (C := RX5) (T := TX5) (N := 43) (n := 43) hTB inT5 (hTB _ w940)
  obtain ⟨dC, dI, hKc⟩ : ∃ (dC : Nat → ClassId) (dI : Nat → Nat → Nat), ∀ (k : Nat) (q : vw_C), vwCl[k]? = some q → u_Kn s q.1 q.2.1 q.2.2 (dC k) (dI k) := by
    refine ⟨fun k => match k with | 0 => k0 | 1 => k1 | 2 => k2 | 3 => k3 | 4 => k4 | _ => k5, fun k => match k with | 0 => i0 | 1 => i1 | 2 => i2 | 3 => i3 | 4 => i4 | _ => i5, ?_⟩
    intro k q hq
    match k, hq with
    | 0, hq => cases hq; exact hk0
    | 1, hq => cases hq; exact hk1
    | 2, hq => cases hq; exact hk2
    | 3, hq => cases hq; exact hk3
    | 4, hq => cases hq; exact hk4
    | 5, hq => cases hq; exact hk5
    | k + 6, hq => simp [vwCl] at hq
  obtain ⟨cI, hI1, hI2⟩ := kI_of (ty := .int) (hTB _ w_arI) (fun _ h => by cases h)
  obtain ⟨cZ, hZ1, hZ2⟩ := kI_of (ty := .boolean) (hTB _ w_arZ) (fun _ h => by cases h)
  have hK : va_K (dC, dI) vwCl [(cI, .int), (cZ, .boolean)] s := ⟨hKc, fun k q hq => by
    match k, hq with
    | 0, hq => cases hq; exact ⟨hI1, hI2⟩
    | 1, hq => cases hq; exact ⟨hZ1, hZ2⟩
    | k + 2, hq => simp at hq⟩
  have hNW : NW s := ⟨va_Nw.of rfl (hts _ (tb_1 (List.mem_of_getElem? (i := 230) rfl))), va_Nw.of rfl (hts _ (tb_2 (List.mem_of_getElem? (i := 97) rfl)))⟩
  have hNI : NWI s := ⟨va_Nw.of rfl (hts _ (tb_1 (List.mem_of_getElem? (i := 30) rfl))), va_Nw.of rfl (hts _ (tb_1 (List.mem_of_getElem? (i := 65) rfl))), va_Nw.of rfl (hts _ (tb_1 (List.mem_of_getElem? (i := 86) rfl)))⟩
  have hO1 : va_AO "KinInTheHeap$Text" s := va_AO.of (hts _ (tb_1 (List.mem_of_getElem? (i := 25) rfl)))
  have hO2 : va_AO "KinInTheHeap$Sheet" s := va_AO.of (hts _ (tb_1 (List.mem_of_getElem? (i := 27) rfl)))
  have hS : va_S (fun q : Nat => s.heap.size ≤ q) s.heap s.heap [] := va_S.rf
  have hA : ∀ q : Nat, s.heap.size ≤ q → (fun q : Nat => s.heap.size ≤ q) q := fun _ h => h
  have hP : va_P (dC, dI) vwCl [] s.heap := fun k q h => by simp at h
  have hD : va_D (fun q : Nat => s.heap.size ≤ q) [] := ⟨fun i j p q h => by simp at h, fun k q h => by simp at h⟩
  have CF : CallFix p m c code 4 s #[Value.ref b] TB R_law := ⟨hx, hb, hml, hown, hTB⟩
  have hl := lv_entry ([.ref b]) (n := 4) (Nat.le_of_ble_eq_true rfl)
  rw [lg_entry_eq]
  generalize (lg_sl ([.ref b]) ++ List.replicate (4 - (lg_sl ([.ref b])).length) Slot.unset).toArray = ls at hl ⊢
  have hL : LH ls 4 [some (.ref b), none, none, none] := ⟨hl.1, hl.2.1, fun i v hi => hl.2.2 (i, v) (pz_mem.mpr ⟨i, (Nat.zero_add i).symm, hi⟩ : (i, v) ∈ pz 0 [some (.ref b), none, none, none])⟩
  refine va_new (D := (dC, dI)) (ci := 4) (fs := [.null, .null, .null, .null, .null, .null, .null, .int 0, .int 0]) (C := RX4) (T := TX4) (N := 9) hx hb hTB inT4 tyX4 tyX4_ok hown (hTB _ w113) (hTB _ w114) (hTB _ w98) hK hP hD hS hA rfl (fun j hj => by rcases (show j = 0 ∨ j = 1 ∨ j = 2 ∨ j = 3 ∨ j = 4 ∨ j = 5 ∨ j = 6 ∨ j = 7 ∨ j = 8 by omega) with rfl | rfl | rfl | rfl | rfl | rfl | rfl | rfl | rfl <;> rfl) (Nat.le_of_ble_eq_true rfl) (Nat.le_of_ble_eq_true rfl) dL_law_0 (fun q0 H hP hD hS => ?_)
  have hP : va_P (dC, dI) vwCl (m0 q0) H := hP
  have hD : va_D (fun q : Nat => s.heap.size ≤ q) (m0 q0) := hD
  refine lv_dup hx hb dL_law_3 rfl ?_
  have hF0 : ∀ x, va_A (m0 q0) H.size x → s.heap.size ≤ x := fun x hx => by
    rcases hx with ⟨k, e', hk⟩ | hx
    · exact hD.2 k _ hk
    · exact Nat.le_trans hS.1 hx
  refine va_callv (va_runI (As := []) (rest := [.ref q0]) CF (kX4_init l (dC, dI) cs cI cZ q0 H.size) ⟨callB_of 0 hTB (goodTB w117) rfl rfl rfl (hTB _ w98) (hTB _ w115) (by decide +kernel) ⟨Nat.le_of_ble_eq_true rfl, Nat.le_of_ble_eq_true rfl⟩, rfl, hTB _ w116⟩ ⟨fun a U g mk q => by
    obtain ⟨z0, z1, z2, ⟨z3, z4, z5, z6, z7, z8⟩, z9⟩ := q
    exact ⟨z0, z1, z2, ⟨va_K.moved (u := U) (U := U.calling g mk a) (Vm.Alike.refl U.vm) z3, ⟨va_Nw.same rfl rfl z4.1, va_Nw.same rfl rfl z4.2.1, va_Nw.same rfl rfl z4.2.2⟩, va_AO.moved (u := U) (U := U.calling g mk a) (Vm.Alike.refl U.vm) z5, va_AO.moved (u := U) (U := U.calling g mk a) (Vm.Alike.refl U.vm) z6, ⟨va_Nw.same rfl rfl z7.1, va_Nw.same rfl rfl z7.2⟩, z8.blind⟩, z9⟩, fun U hU hW => ⟨rfl, by rw [hU], by rw [hU]; exact hP, ⟨va_K.moved hW.alike hK, ⟨va_Nw.warmM hW hNI.1, va_Nw.warmM hW hNI.2.1, va_Nw.warmM hW hNI.2.2⟩, va_AO.moved hW.alike hO1, va_AO.moved hW.alike hO2, ⟨va_Nw.warmM hW hNW.1, va_Nw.warmM hW hNW.2⟩, by have h := hZ.go hS hU hW hF0; exact h⟩, hD.weaken (fun _ _ _ _ => trivial)⟩⟩ rfl rfl hL.1 rfl (lv_room (Nat.le_of_ble_eq_true rfl)) dL_law_4 ⟨Nat.le_of_ble_eq_true rfl, Nat.le_of_ble_eq_true rfl⟩) hS (fun x _ h => hF0 x h) hF0 (fun u t H1 locs1 ht hvm hpost hB hz hk1 hS1 => ?_)
  obtain ⟨cT, cS, ad⟩ := u
  obtain ⟨hK1, hP1, hD1⟩ := hB
  have had0 : ad 0 = q0 := hpost
  rw [ht] at hP1
  obtain ⟨g, hg⟩ : ∃ g : GG, g = ((dC, dI), gcl cI cZ cT cS) := ⟨_, rfl⟩
  have hKg : va_K g.1 vwCl (tysOf g) s := by rw [hg]; exact va_K.moved hvm.symm hK1
  have hP1 : va_P g.1 vwCl (wd ad mem0 0 (shC g)) H1 := by rw [hg]; exact hP1
  have hD1 : va_D (fun q : Nat => s.heap.size ≤ q) (wd ad mem0 0 (shC g)) := by
    rw [hg]
    exact ⟨hD1.1, fun k q h => hF0 _ (hD1.2 k q h)⟩
  have hKd : g.1 = (dC, dI) := by rw [hg]
  refine lv_astore_n hx hb dL_law_7 rfl (LH_has hL) (by decide) rfl (fun ls hl => ?_)
  have hL : LH ls 4 [some (.ref b), some (.ref q0), none, none] := LH_set hl
  refine va_new (D := g.1) (tys := tysOf g) (ci := 5) (fs := [.int 0, .null, .null, .int 0, .int 0, .null, .int 0, .int 0, .int 0, .null, .null, .null, .null, .int 0, .int 0, .int 0, .int 0, .int 0, .int 0, .int 0, .int 0, .int 0, .int 0, .int 0, .int 0, .long 0, .int 0, .int 0, .int 0, .null, .null, .int 0, .null, .null, .null, .int 0, .int 0, .int 0, .int 0, .null, .null, .null, .null]) (C := RX5) (T := TX5) (N := 43) hx hb hTB inT5 tyX5 tyX5_ok hown (hTB _ w939) (hTB _ w940) (hTB _ w103) hKg hP1 hD1 hS1 hA rfl (fun j hj => by rcases (show j = 0 ∨ j = 1 ∨ j = 2 ∨ j = 3 ∨ j = 4 ∨ j = 5 ∨ j = 6 ∨ j = 7 ∨ j = 8 ∨ j = 9 ∨ j = 10 ∨ j = 11 ∨ j = 12 ∨ j = 13 ∨ j = 14 ∨ j = 15 ∨ j = 16 ∨ j = 17 ∨ j = 18 ∨ j = 19 ∨ j = 20 ∨ j = 21 ∨ j = 22 ∨ j = 23 ∨ j = 24 ∨ j = 25 ∨ j = 26 ∨ j = 27 ∨ j = 28 ∨ j = 29 ∨ j = 30 ∨ j = 31 ∨ j = 32 ∨ j = 33 ∨ j = 34 ∨ j = 35 ∨ j = 36 ∨ j = 37 ∨ j = 38 ∨ j = 39 ∨ j = 40 ∨ j = 41 ∨ j = 42 by omega) with rfl | rfl | rfl | rfl | rfl | rfl | rfl | rfl | rfl | rfl | rfl | rfl | rfl | rfl | rfl | rfl | rfl | rfl | rfl | rfl | rfl | rfl | rfl | rfl | rfl | rfl | rfl | rfl | rfl | rfl | rfl | rfl | rfl | rfl | rfl | rfl | rfl | rfl | rfl | rfl | rfl | rfl | rfl <;> rfl) (Nat.le_of_ble_eq_true rfl) (Nat.le_of_ble_eq_true rfl) dL_law_8 (fun qm H2 hP2 hD2 hS2 => ?_)
  refine lv_dup hx hb dL_law_11 rfl ?_
  have hP2 : va_P g.1 vwCl (wd ad mem0 0 (shC g) ++ (mm0 qm ++ [])) H2 := by rw [List.append_nil]; exact hP2
  have hD2 : va_D (fun q : Nat => s.heap.size ≤ q) (wd ad mem0 0 (shC g) ++ (mm0 qm ++ [])) := by rw [List.append_nil]; exact hD2
  have hPm : va_P g.1 vwCl (mm0 qm) H2 := vaP_mid hP2
  have hqm : s.heap.size ≤ qm := hD2.2 (wd ad mem0 0 (shC g)).length (qm, _) (by rw [List.getElem?_append_right (Nat.le_refl _), Nat.sub_self]; rfl)
  have hDm : va_D (fun q : Nat => s.heap.size ≤ q) (mm0 qm) := ⟨fun i j a b hi hj _ => by
    have h1 := (List.getElem?_eq_some_iff.mp hi).1
    have h2 := (List.getElem?_eq_some_iff.mp hj).1
    simp [mm0] at h1 h2
    omega, fun k q h => by
    have h1 := (List.getElem?_eq_some_iff.mp h).1
    simp [mm0] at h1
    subst h1
    cases h
    exact hqm⟩
  have hF2 : ∀ x, va_A (mm0 qm) H2.size x → s.heap.size ≤ x := fun x hx => by
    rcases hx with ⟨k, e', hk⟩ | hx
    · exact hDm.2 k _ hk
    · exact Nat.le_trans hS2.1 hx
  refine va_callv (va_runI (As := []) (rest := [.ref qm]) CF (kX5_init l g cs qm H2.size) ⟨callB_of 0 hTB (goodTB w943) rfl rfl rfl (hTB _ w103) (hTB _ w941) (by decide +kernel) ⟨Nat.le_of_ble_eq_true rfl, Nat.le_of_ble_eq_true rfl⟩, rfl, hTB _ w942⟩ ⟨fun a U g mk q => by
    obtain ⟨z0, z1, z2, ⟨z3, z7, z8⟩, z9⟩ := q
    exact ⟨z0, z1, z2, ⟨va_K.moved (u := U) (U := U.calling g mk a) (Vm.Alike.refl U.vm) z3, ⟨va_Nw.same rfl rfl z7.1, va_Nw.same rfl rfl z7.2⟩, z8.blind⟩, z9⟩, fun U hU hW => ⟨rfl, by rw [hU], by rw [hU]; exact hPm, ⟨va_K.moved hW.alike hKg, ⟨va_Nw.warmM hW hNW.1, va_Nw.warmM hW hNW.2⟩, by have h := hZ.go hS2 hU hW hF2; exact h⟩, hDm.weaken (fun _ _ _ _ => trivial)⟩⟩ rfl rfl hL.1 rfl (lv_room (Nat.le_of_ble_eq_true rfl)) dL_law_12 ⟨Nat.le_of_ble_eq_true rfl, Nat.le_of_ble_eq_true rfl⟩) hS2 (fun x _ h => hF2 x h) hF2 (fun u t2 H3 locs3 ht3 hvm3 hpost3 hB3 hz3 hk3 hS3 => ?_)
  obtain ⟨am, rfl⟩ : ∃ z, z = u := ⟨u, rfl⟩
  obtain ⟨hPM, hDM⟩ := hB3
  have ham0 : am 0 = qm := hpost3
  rw [ht3] at hPM
  obtain ⟨hP3, hD3⟩ := joinMid (X := wd ad mem0 0 (shC g)) (cx := mm0 qm) (Y := []) (w1 := wd am memM0 0 (shM g)) hP2 hD2 hk3 hF2 hPM hDM
  have hPC : va_P g.1 vwCl (wd ad mem0 0 (shC g)) H3 := fun k q h => hP3 k q (by rw [List.getElem?_append_left (List.getElem?_eq_some_iff.mp h).1]; exact h)
  have okM := adOk_of (X := wd ad mem0 0 (shC g)) (Y := []) hD3
  have okC := adOk_of (X := []) (Y := (wd am memM0 0 (shM g) ++ [])) (ad := ad) (σ := mem0) (w := shC g) hD3
  have hdis : ∀ i j, i < 64 → j < 17 → ad i ≠ am j := fun i j hi hj h => by
    obtain ⟨e1, h1⟩ := wd_lt (ad := ad) (σ := mem0) (w := shC g) (k := i) hi
    obtain ⟨e2, h2⟩ := wd_lt (ad := am) (σ := memM0) (w := shM g) (k := j) hj
    have g1 : (wd ad mem0 0 (shC g) ++ (wd am memM0 0 (shM g) ++ []))[i]? = some (ad i, e1) := by rw [List.getElem?_append_left (List.getElem?_eq_some_iff.mp h1).1]; exact h1
    have g2 : (wd ad mem0 0 (shC g) ++ (wd am memM0 0 (shM g) ++ []))[(wd ad mem0 0 (shC g)).length + j]? = some (am j, e2) := by
      rw [List.getElem?_append_right (by omega), Nat.add_sub_cancel_left, List.append_nil]
      exact h2
    have := hD3.1 _ _ _ _ g1 g2 h
    have hlen : (wd ad mem0 0 (shC g)).length = 64 := by rw [wd_len]; rfl
    omega
  have CL : Lx p s m #[Value.ref b] c g cs ad am b L xs := ⟨CF, ⟨hKg, hNW, hZ⟩, okC, okM, hdis, hX, hbl⟩
  refine lv_astore_n hx hb dL_law_15 rfl (LH_has hL) (by decide) rfl (fun ls hl => ?_)
  have hL : LH ls 4 [some (.ref b), some (.ref q0), some (.ref qm), none] := LH_set hl
  refine lv_iconst (v := 0) hx hb dL_law_16 (by decide) ?_
  refine lv_istore_n hx hb dL_law_17 rfl (LH_has hL) (by decide) rfl (fun ls hl => ?_)
  have hL : LH ls 4 [some (.ref b), some (.ref q0), some (.ref qm), some (.int 0)] := LH_set hl
  refine W.widen (k := 600000) (n := 7302250) (Nat.le_of_ble_eq_true rfl) (Nat.le_of_ble_eq_true rfl) ?_
  rw [← had0, ← ham0] at hL
  exact law_loop hL3 hst CL hr hlocks (L + 1) 0 mem0 memM0 0 (Nat.zero_le _) (by omega) nI_0.symm h0 H3 locs3 ls hPC hPM hS3 hL
