/-! THE CLAIM OUT OF ONE WALK OF THE LAW'S BODY. Your part is whole_start (and what it stands on); all else here is the same for every law, but numbers. -/
def R_law : String := "KinInTheHeapLaw"
def lw_P (b : Addr) (xs : List Int32) (args : Array Value) (s : State) : Prop := args = #[.ref b] ∧ s.IntsAt b xs ∧ xs.length ≤ 3072 ∧ (Jvm.Cond.and given_1 narrow_1).before args s = true
def lw_Q (_ : Array Value) (s : State) (o : Outcome) (t : State) : Prop := o = .returned (some (.int 1)) ∧ Framed s o t [] 600000 7302250
def lw_Z (below : List Frame) (a : Array Value) (s : State) : State → Prop := fun t => ∃ o, t.status = .running ∧ Ended t below o ∧ lw_Q a s o t
/-- the law's own end, with 1 on the stack, nothing written that was there before, its room as the claim has it -/
theorem lw_ret {p : Program} {l : Launch} {e : Env} {s : State} {m : MethodId} {below : List Frame} {meth : Method} {c : Code} {b : Nat} (hx : p.tables.exec = Jvm.exec) (hb : c.code = code) (hr : meth.sig.returnType = ret) (hlocks : meth.locks = false) {pc : Nat} {H : Heap} {ls : Array Slot} (hdg : decode code pc = .ok (.ireturn, 1)) : W p l e room_1 s m #[Value.ref b] below meth c H [] 600000 7302250 (lw_Z below #[Value.ref b] s) (F0 m pc ls [.int 1]) := by
  intro T hT X
  obtain ⟨fs, hret, hrun, hended, hW, hframe⟩ := X.leave (v := some (.int 1)) (hlocks := hlocks) (fun h => by rw [hr] at h; cases h)
  have hmeth' : T.vm.method? m = some meth := X.method'
  refine ⟨T.setFrames fs, ?_, .returned (some (.int 1)), hrun, hended, rfl, ⟨_, rfl⟩, hW, hframe⟩
  jvm_step X.here [X.here.top, hx, hb, hdg, hmeth', hr, ret, narrow_b1]
  (try refine ⟨rfl, ?_⟩); (try refine ⟨rfl, ?_⟩)
  first | (intro acts; rw [hret _ acts rfl rfl rfl]) | rw [hret _ _ rfl rfl rfl]
  exact Steps.refl _
/-- what holds at the law's entry: the machine, the code, the tables' words (any of lw_tbl by 'hts w (by decide +kernel)'), the script of L ints xs at the cell b, what the Statement gives of the start (any of its parts by flat_of_before) -/
def lw_At (p : Program) (s : State) (m : MethodId) (meth : Method) (c : Code) (b L : Nat) (xs : Nat → Int32) : Prop :=
  p.tables.exec = Jvm.exec ∧ c.code = code ∧ meth.sig.returnType = ret ∧ c.maxLocals = 4 ∧ s.vm.findClass R_law = some m.cls ∧ (∀ w ∈ lw_tbl, w.before #[Value.ref b] s = true) ∧ va_X b L xs s s.heap ∧ b < s.heap.size ∧ meth.locks = false ∧ (Jvm.Cond.and given_1 narrow_1).before #[Value.ref b] s = true
def SimI (Rl : Mem → Mem → Prop) (fx fm : Mem → Option (Int32 × Mem)) : Prop := ∀ σ τ, Rl σ τ → ∃ (r : Int32) (σ' τ' : Mem), fx σ = some (r, σ') ∧ fm τ = some (r, τ') ∧ Rl σ' τ'
def SimL (Rl : Mem → Mem → Prop) (fx fm : Mem → Option (Int64 × Mem)) : Prop := ∀ σ τ, Rl σ τ → ∃ (r : Int64) (σ' τ' : Mem), fx σ = some (r, σ') ∧ fm τ = some (r, τ') ∧ Rl σ' τ'
def St_set (Rl : Mem → Mem → Prop) : Prop := ∀ a1 a2 a3 : Int32, SimI Rl (fun σ => fX4_set a1 a2 a3 σ) (fun σ => fX5_set a1 a2 a3 σ)
def St_dust (Rl : Mem → Mem → Prop) : Prop := ∀ a1 a2 a3 : Int32, SimI Rl (fun σ => fX4_dust a1 a2 a3 σ) (fun σ => fX5_dust a1 a2 a3 σ)
def St_told (Rl : Mem → Mem → Prop) : Prop := ∀ a1 a2 : Int32, SimI Rl (fun σ => fX4_told a1 a2 σ) (fun σ => fX5_told a1 a2 σ)
def St_feed (Rl : Mem → Mem → Prop) : Prop := ∀ a1 : Int32, SimI Rl (fun σ => fX4_feed a1 σ) (fun σ => fX5_feed a1 σ)
def St_text (Rl : Mem → Mem → Prop) : Prop := SimI Rl (fun σ => fX4_text σ) (fun σ => fX5_text σ)
def St_force (Rl : Mem → Mem → Prop) : Prop := ∀ a1 : Int32, SimI Rl (fun σ => fX4_force a1 σ) (fun σ => fX5_force a1 σ)
def St_stroke (Rl : Mem → Mem → Prop) : Prop := ∀ a1 : Int32, SimI Rl (fun σ => fX4_stroke a1 σ) (fun σ => fX5_stroke a1 σ)
def St_week (Rl : Mem → Mem → Prop) : Prop := SimI Rl (fun σ => fX4_week σ) (fun σ => fX5_week σ)
def St_sweep (Rl : Mem → Mem → Prop) : Prop := ∀ a1 a2 : Int32, SimI Rl (fun σ => fX4_sweep a1 a2 σ) (fun σ => fX5_sweep a1 a2 σ)
def St_sweeps (Rl : Mem → Mem → Prop) : Prop := ∀ a1 : Int32, SimI Rl (fun σ => fX4_sweeps a1 σ) (fun σ => fX5_sweeps a1 σ)
def St_floor (Rl : Mem → Mem → Prop) : Prop := ∀ a1 : Int32, SimI Rl (fun σ => pur (fX4_floor a1 σ) σ) (fun σ => pur (fX5_floor a1 σ) σ)
def St_where (Rl : Mem → Mem → Prop) : Prop := ∀ a1 : Int32, SimL Rl (fun σ => fX4_where a1 σ) (fun σ => fX5_where a1 σ)
def St_gather (Rl : Mem → Mem → Prop) : Prop := ∀ a1 a2 : Int32, SimI Rl (fun σ => fX4_gather a1 a2 σ) (fun σ => fX5_gather a1 a2 σ)
def St_best (Rl : Mem → Mem → Prop) : Prop := ∀ a1 : Int32, SimI Rl (fun σ => fX4_best a1 σ) (fun σ => fX5_best a1 σ)
def St_save (Rl : Mem → Mem → Prop) : Prop := ∀ a1 a2 : Int32, SimI Rl (fun σ => fX4_save a1 a2 σ) (fun σ => fX5_save a1 a2 σ)
def St_lasts (Rl : Mem → Mem → Prop) : Prop := ∀ a1 a2 : Int32, SimI Rl (fun σ => fX4_lasts a1 a2 σ) (fun σ => fX5_lasts a1 a2 σ)
def St_share (Rl : Mem → Mem → Prop) : Prop := ∀ a1 : Int32, SimL Rl (fun σ => pur (fX4_share a1 σ) σ) (fun σ => pur (fX5_share a1 σ) σ)
def St_tells (Rl : Mem → Mem → Prop) : Prop := ∀ a1 a2 a3 : Int32, SimI Rl (fun σ => fX4_tells a1 a2 a3 σ) (fun σ => fX5_tells a1 a2 a3 σ)
def St_places (Rl : Mem → Mem → Prop) : Prop := ∀ a1 a2 : Int32, SimL Rl (fun σ => fX4_places a1 a2 σ) (fun σ => fX5_places a1 a2 σ)
def St_film (Rl : Mem → Mem → Prop) : Prop := ∀ a1 a2 : Int32, SimI Rl (fun σ => fX4_film a1 a2 σ) (fun σ => fX5_film a1 a2 σ)
def St_drawn (Rl : Mem → Mem → Prop) : Prop := ∀ a1 a2 : Int32, SimI Rl (fun σ => fX4_drawn a1 a2 σ) (fun σ => fX5_drawn a1 a2 σ)
def St_chance (Rl : Mem → Mem → Prop) : Prop := ∀ a1 a2 a3 a4 : Int32, SimL Rl (fun σ => fX4_chance a1 a2 a3 a4 σ) (fun σ => fX5_chance a1 a2 a3 a4 σ)
def St_image (Rl : Mem → Mem → Prop) : Prop := SimI Rl (fun σ => fX4_image σ) (fun σ => fX5_image σ)
def St_back (Rl : Mem → Mem → Prop) : Prop := SimI Rl (fun σ => fX4_back σ) (fun σ => fX5_back σ)
def St_count (Rl : Mem → Mem → Prop) : Prop := ∀ a1 : Int32, SimI Rl (fun σ => pur (fX4_count a1 σ) σ) (fun σ => pur (fX5_count a1 σ) σ)
def St_sheet (Rl : Mem → Mem → Prop) : Prop := ∀ a1 a2 a3 : Int32, SimI Rl (fun σ => fX4_sheet a1 a2 a3 σ) (fun σ => fX5_sheet a1 a2 a3 σ)
def St_cell (Rl : Mem → Mem → Prop) : Prop := ∀ a1 a2 a3 : Int32, SimI Rl (fun σ => fX4_cell a1 a2 a3 σ) (fun σ => fX5_cell a1 a2 a3 σ)
def St_copy (Rl : Mem → Mem → Prop) : Prop := ∀ a1 a2 a3 a4 a5 : Int32, SimI Rl (fun σ => fX4_copy a1 a2 a3 a4 a5 σ) (fun σ => fX5_copy a1 a2 a3 a4 a5 σ)
def St_heap (Rl : Mem → Mem → Prop) : Prop := ∀ a1 a2 a3 a4 : Int32, SimI Rl (fun σ => fX4_heap a1 a2 a3 a4 σ) (fun σ => fX5_heap a1 a2 a3 a4 σ)
def St_taken (Rl : Mem → Mem → Prop) : Prop := ∀ a1 a2 : Int32, SimI Rl (fun σ => pur (fX4_taken a1 a2 σ) σ) (fun σ => pur (fX5_taken a1 a2 σ) σ)
def Steps (Rl : Mem → Mem → Prop) : Prop := St_set Rl ∧ St_dust Rl ∧ St_told Rl ∧ St_feed Rl ∧ St_text Rl ∧ St_force Rl ∧ St_stroke Rl ∧ St_week Rl ∧ St_sweep Rl ∧ St_sweeps Rl ∧ St_floor Rl ∧ St_where Rl ∧ St_gather Rl ∧ St_best Rl ∧ St_save Rl ∧ St_lasts Rl ∧ St_share Rl ∧ St_tells Rl ∧ St_places Rl ∧ St_film Rl ∧ St_drawn Rl ∧ St_chance Rl ∧ St_image Rl ∧ St_back Rl ∧ St_count Rl ∧ St_sheet Rl ∧ St_cell Rl ∧ St_copy Rl ∧ St_heap Rl ∧ St_taken Rl
def Lx (p : Program) (s : State) (m : MethodId) (args : Array Value) (c : Code) (g : GG) (cs : CS) (ad am : Nat → Nat) (b L : Nat) (xs : Nat → Int32) : Prop :=
  CallFix p m c code 4 s args TB R_law ∧ Ev g cs (fun q => s.heap.size ≤ q) s s.heap ∧ adOk (fun q => s.heap.size ≤ q) ad 64 ∧ adOk (fun q => s.heap.size ≤ q) am 17 ∧ (∀ i j, i < 64 → j < 17 → ad i ≠ am j) ∧ va_X b L xs s s.heap ∧ b < s.heap.size
def Lw (p : Program) (l : Launch) (e : Env) (s : State) (m : MethodId) (args : Array Value) (below : List Frame) (meth : Method) (c : Code) (g : GG) (ad am : Nat → Nat) (Q : State → Prop) (σ τ : Mem) (cells slots : Nat) (pc : Nat) (lv : List (Option Value)) (st : List Value) : Prop :=
  ∀ (H : Heap) (locs : List Loc) (ls : Array Slot), va_P g.1 vwCl (wd ad σ 0 (shC g)) H → va_P g.1 vwCl (wd am τ 0 (shM g)) H → va_S (fun q => s.heap.size ≤ q) s.heap H locs → LH ls 4 lv → W p l e room_1 s m args below meth c H locs cells slots Q (F0 m pc ls st)
section LAW
variable {p : Program} {l : Launch} {e : Env} {s : State} {m : MethodId} {args : Array Value} {below : List Frame} {meth : Method} {c : Code} {g : GG} {cs : CS} {ad am : Nat → Nat} {b L : Nat} {xs : Nat → Int32} {Q : State → Prop} {σ τ : Mem} {cells slots : Nat} {pc : Nat} {lv : List (Option Value)} {st st0 : List Value}
theorem l_step {pc2 : Nat} {st2 : List Value} (h : ∀ (H : Heap) (locs : List Loc) (ls : Array Slot), va_S (fun q => s.heap.size ≤ q) s.heap H locs → LH ls 4 lv → W p l e room_1 s m args below meth c H locs cells slots Q (F0 m pc2 ls st2) → W p l e room_1 s m args below meth c H locs cells slots Q (F0 m pc ls st)) (kk : Lw p l e s m args below meth c g ad am Q σ τ cells slots (pc2) lv (st2)) : Lw p l e s m args below meth c g ad am Q σ τ cells slots (pc) lv (st) := fun H locs ls hP hM hS hL => h H locs ls hS hL (kk H locs ls hP hM hS hL)
theorem l_ld (C : Lx p s m args c g cs ad am b L xs) {x i : Int32} (hin : vp_in i L) (hx : xs i.toNatClampNeg = x) (hd : decode code pc = .ok (.iaload, 1)) (kk : Lw p l e s m args below meth c g ad am Q σ τ cells slots (pc + 1) lv (.int x :: st)) : Lw p l e s m args below meth c g ad am Q σ τ cells slots (pc) lv (.int i :: .ref b :: st) := fun H locs ls hP hM hS hL => va_sld C.1.1 C.1.2.1 C.2.2.2.2.2.1 C.2.2.2.2.2.2 (Nat.not_le.mpr C.2.2.2.2.2.2) hS hin hd (by rw [hx]; exact kk H locs ls hP hM hS hL)
theorem l_iinc (C : Lx p s m args c g cs ad am b L xs) {i : Nat} {n : Int} {x y : Int32} {lv' : List (Option Value)} (hd : decode code pc = .ok (.iinc i n, 3)) (hx : lv[i]? = some (some (.int x))) (hv : x + Int32.ofInt n = y) (hn : i < 4) (hl : lset lv i (.int y) = lv') (kk : Lw p l e s m args below meth c g ad am Q σ τ cells slots (pc + 3) lv' (st)) : Lw p l e s m args below meth c g ad am Q σ τ cells slots (pc) lv (st) := fun H locs ls hP hM hS hL => by
  obtain ⟨k, hk⟩ := List.getElem?_of_mem (pz_mem.mpr ⟨i, (Nat.zero_add i).symm, hx⟩ : (i, Value.int x) ∈ pz 0 lv)
  exact lv_iinc (v := y) C.1.1 C.1.2.1 hd (LH_has hL) hk hv hn rfl (fun ls' hL' => kk H locs ls' hP hM hS (hl ▸ LH_set hL'))
theorem l_cXI (C : Lx p s m args c g cs ad am b L xs) {y : MethodName} {bytes : ByteArray} {maxL idx n : Nat} {ret : Option FieldType} {rm : Room} {av : List Value} {f : Option (Int32 × Mem)} {r : Int32} {σ' : Mem} (hMt : CtI l g cs ad (shC g) y (.code y bytes maxL ret) rm (.ref (ad 0) :: av) σ f) (hf : f = some (r, σ')) (hw : MWV y (.code y bytes maxL ret) RX4 n) (hl : Cond.methodLink R_law idx y ∈ TB) (hrm : rm.cells = 0 ∧ rm.slots = 0) (hR : rm.frames + 1 ≤ room_1.frames ∧ 8 + (maxL + 11) + rm.locals ≤ room_1.locals) (hn : av.length = n) (hst : st0 = av.reverse ++ .ref (ad 0) :: st) (hcat : (st.map fun v => v.category).sum ≤ 8) (hcs : cells ≤ room_1.cells ∧ slots ≤ room_1.slots) (hd : decode code pc = .ok (.invokevirtual idx, 3)) (kk : Lw p l e s m args below meth c g ad am Q σ' τ cells slots (pc + 3) lv (.int r :: st)) : Lw p l e s m args below meth c g ad am Q σ τ cells slots (pc) lv (st0) := by
  intro H locs ls hP hM hS hL
  have hsub : ∀ x, AA ad 64 H.size x → s.heap.size ≤ x := fun x hx => by
    rcases hx with ⟨j, hj, rfl⟩ | hx
    · exact C.2.2.1.2 j hj
    · exact Nat.le_trans hS.1 hx
  refine va_calli (va_runV (As := av) (rest := st) C.1 (hMt _ hf H.size) (cwV n C.1.2.2.2.2 (gwV hw hl) rfl hrm.1 hrm.2 hw.2.2.2.2.2 hR) ⟨PreW.blind _, va_recv (q0 := 0) (ci := 4) C.2.1.1 hP rfl (wd_get0 (s := .inl (4, mnD)) rfl), fun U hU hW => ⟨rfl, by rw [hU], by rw [hU]; exact hP, C.2.1.go hS hU hW hsub, C.2.2.1.1, fun _ _ => trivial⟩⟩ rfl hn hL.1 hst (lv_room hcat) hd hcs) hS (fun x _ h => hsub x h) hsub (fun r1 u t H1 locs1 ht hvm hw1 hB hz1 hk1 hS1 => ?_)
  have e9 : r1 = r := hw1
  rw [e9]
  have hown : va_P g.1 vwCl (wd ad σ' 0 (shC g)) H1 := by rw [← ht]; exact hB
  have hoth : va_P g.1 vwCl (wd am τ 0 (shM g)) H1 := hM.kept (fun k q hq => by
    have hlt := (hM k q hq).lt
    refine hk1 _ hlt (fun hA => ?_)
    cases hw9 : (shM g)[k]? with
    | none => rw [wd_none hw9] at hq; cases hq
    | some s9 =>
      rw [wd_get0 hw9] at hq
      cases hq
      have hk9 : k < 17 := (List.getElem?_eq_some_iff.mp hw9).1
      rcases hA with ⟨j, hj, h⟩ | h
      · exact C.2.2.2.2.1 j k hj hk9 h.symm
      · exact absurd hlt (Nat.not_lt.mpr h))
  exact kk H1 locs1 ls hown hoth hS1 hL
theorem l_cXL (C : Lx p s m args c g cs ad am b L xs) {y : MethodName} {bytes : ByteArray} {maxL idx n : Nat} {ret : Option FieldType} {rm : Room} {av : List Value} {f : Option (Int64 × Mem)} {r : Int64} {σ' : Mem} (hMt : CtL l g cs ad (shC g) y (.code y bytes maxL ret) rm (.ref (ad 0) :: av) σ f) (hf : f = some (r, σ')) (hw : MWV y (.code y bytes maxL ret) RX4 n) (hl : Cond.methodLink R_law idx y ∈ TB) (hrm : rm.cells = 0 ∧ rm.slots = 0) (hR : rm.frames + 1 ≤ room_1.frames ∧ 8 + (maxL + 11) + rm.locals ≤ room_1.locals) (hn : av.length = n) (hst : st0 = av.reverse ++ .ref (ad 0) :: st) (hcat : (st.map fun v => v.category).sum ≤ 8) (hcs : cells ≤ room_1.cells ∧ slots ≤ room_1.slots) (hd : decode code pc = .ok (.invokevirtual idx, 3)) (kk : Lw p l e s m args below meth c g ad am Q σ' τ cells slots (pc + 3) lv (.long r :: st)) : Lw p l e s m args below meth c g ad am Q σ τ cells slots (pc) lv (st0) := by
  intro H locs ls hP hM hS hL
  have hsub : ∀ x, AA ad 64 H.size x → s.heap.size ≤ x := fun x hx => by
    rcases hx with ⟨j, hj, rfl⟩ | hx
    · exact C.2.2.1.2 j hj
    · exact Nat.le_trans hS.1 hx
  refine va_calll (va_runV (As := av) (rest := st) C.1 (hMt _ hf H.size) (cwV n C.1.2.2.2.2 (gwV hw hl) rfl hrm.1 hrm.2 hw.2.2.2.2.2 hR) ⟨PreW.blind _, va_recv (q0 := 0) (ci := 4) C.2.1.1 hP rfl (wd_get0 (s := .inl (4, mnD)) rfl), fun U hU hW => ⟨rfl, by rw [hU], by rw [hU]; exact hP, C.2.1.go hS hU hW hsub, C.2.2.1.1, fun _ _ => trivial⟩⟩ rfl hn hL.1 hst (lv_room hcat) hd hcs) hS (fun x _ h => hsub x h) hsub (fun r1 u t H1 locs1 ht hvm hw1 hB hz1 hk1 hS1 => ?_)
  have e9 : r1 = r := hw1
  rw [e9]
  have hown : va_P g.1 vwCl (wd ad σ' 0 (shC g)) H1 := by rw [← ht]; exact hB
  have hoth : va_P g.1 vwCl (wd am τ 0 (shM g)) H1 := hM.kept (fun k q hq => by
    have hlt := (hM k q hq).lt
    refine hk1 _ hlt (fun hA => ?_)
    cases hw9 : (shM g)[k]? with
    | none => rw [wd_none hw9] at hq; cases hq
    | some s9 =>
      rw [wd_get0 hw9] at hq
      cases hq
      have hk9 : k < 17 := (List.getElem?_eq_some_iff.mp hw9).1
      rcases hA with ⟨j, hj, h⟩ | h
      · exact C.2.2.2.2.1 j k hj hk9 h.symm
      · exact absurd hlt (Nat.not_lt.mpr h))
  exact kk H1 locs1 ls hown hoth hS1 hL
theorem l_cMI (C : Lx p s m args c g cs ad am b L xs) {y : MethodName} {bytes : ByteArray} {maxL idx n : Nat} {ret : Option FieldType} {rm : Room} {av : List Value} {f : Option (Int32 × Mem)} {r : Int32} {τ' : Mem} (hMt : CtI l g cs am (shM g) y (.code y bytes maxL ret) rm (.ref (am 0) :: av) τ f) (hf : f = some (r, τ')) (hw : MWV y (.code y bytes maxL ret) RX5 n) (hl : Cond.methodLink R_law idx y ∈ TB) (hrm : rm.cells = 0 ∧ rm.slots = 0) (hR : rm.frames + 1 ≤ room_1.frames ∧ 8 + (maxL + 11) + rm.locals ≤ room_1.locals) (hn : av.length = n) (hst : st0 = av.reverse ++ .ref (am 0) :: st) (hcat : (st.map fun v => v.category).sum ≤ 8) (hcs : cells ≤ room_1.cells ∧ slots ≤ room_1.slots) (hd : decode code pc = .ok (.invokevirtual idx, 3)) (kk : Lw p l e s m args below meth c g ad am Q σ τ' cells slots (pc + 3) lv (.int r :: st)) : Lw p l e s m args below meth c g ad am Q σ τ cells slots (pc) lv (st0) := by
  intro H locs ls hP hM hS hL
  have hsub : ∀ x, AA am 17 H.size x → s.heap.size ≤ x := fun x hx => by
    rcases hx with ⟨j, hj, rfl⟩ | hx
    · exact C.2.2.2.1.2 j hj
    · exact Nat.le_trans hS.1 hx
  refine va_calli (va_runV (As := av) (rest := st) C.1 (hMt _ hf H.size) (cwV n C.1.2.2.2.2 (gwV hw hl) rfl hrm.1 hrm.2 hw.2.2.2.2.2 hR) ⟨PreW.blind _, va_recv (q0 := 0) (ci := 5) C.2.1.1 hM rfl (wd_get0 (s := .inl (5, moD)) rfl), fun U hU hW => ⟨rfl, by rw [hU], by rw [hU]; exact hM, C.2.1.go hS hU hW hsub, C.2.2.2.1.1, fun _ _ => trivial⟩⟩ rfl hn hL.1 hst (lv_room hcat) hd hcs) hS (fun x _ h => hsub x h) hsub (fun r1 u t H1 locs1 ht hvm hw1 hB hz1 hk1 hS1 => ?_)
  have e9 : r1 = r := hw1
  rw [e9]
  have hown : va_P g.1 vwCl (wd am τ' 0 (shM g)) H1 := by rw [← ht]; exact hB
  have hoth : va_P g.1 vwCl (wd ad σ 0 (shC g)) H1 := hP.kept (fun k q hq => by
    have hlt := (hP k q hq).lt
    refine hk1 _ hlt (fun hA => ?_)
    cases hw9 : (shC g)[k]? with
    | none => rw [wd_none hw9] at hq; cases hq
    | some s9 =>
      rw [wd_get0 hw9] at hq
      cases hq
      have hk9 : k < 64 := (List.getElem?_eq_some_iff.mp hw9).1
      rcases hA with ⟨j, hj, h⟩ | h
      · exact C.2.2.2.2.1 k j hk9 hj h
      · exact absurd hlt (Nat.not_lt.mpr h))
  exact kk H1 locs1 ls hoth hown hS1 hL
theorem l_cML (C : Lx p s m args c g cs ad am b L xs) {y : MethodName} {bytes : ByteArray} {maxL idx n : Nat} {ret : Option FieldType} {rm : Room} {av : List Value} {f : Option (Int64 × Mem)} {r : Int64} {τ' : Mem} (hMt : CtL l g cs am (shM g) y (.code y bytes maxL ret) rm (.ref (am 0) :: av) τ f) (hf : f = some (r, τ')) (hw : MWV y (.code y bytes maxL ret) RX5 n) (hl : Cond.methodLink R_law idx y ∈ TB) (hrm : rm.cells = 0 ∧ rm.slots = 0) (hR : rm.frames + 1 ≤ room_1.frames ∧ 8 + (maxL + 11) + rm.locals ≤ room_1.locals) (hn : av.length = n) (hst : st0 = av.reverse ++ .ref (am 0) :: st) (hcat : (st.map fun v => v.category).sum ≤ 8) (hcs : cells ≤ room_1.cells ∧ slots ≤ room_1.slots) (hd : decode code pc = .ok (.invokevirtual idx, 3)) (kk : Lw p l e s m args below meth c g ad am Q σ τ' cells slots (pc + 3) lv (.long r :: st)) : Lw p l e s m args below meth c g ad am Q σ τ cells slots (pc) lv (st0) := by
  intro H locs ls hP hM hS hL
  have hsub : ∀ x, AA am 17 H.size x → s.heap.size ≤ x := fun x hx => by
    rcases hx with ⟨j, hj, rfl⟩ | hx
    · exact C.2.2.2.1.2 j hj
    · exact Nat.le_trans hS.1 hx
  refine va_calll (va_runV (As := av) (rest := st) C.1 (hMt _ hf H.size) (cwV n C.1.2.2.2.2 (gwV hw hl) rfl hrm.1 hrm.2 hw.2.2.2.2.2 hR) ⟨PreW.blind _, va_recv (q0 := 0) (ci := 5) C.2.1.1 hM rfl (wd_get0 (s := .inl (5, moD)) rfl), fun U hU hW => ⟨rfl, by rw [hU], by rw [hU]; exact hM, C.2.1.go hS hU hW hsub, C.2.2.2.1.1, fun _ _ => trivial⟩⟩ rfl hn hL.1 hst (lv_room hcat) hd hcs) hS (fun x _ h => hsub x h) hsub (fun r1 u t H1 locs1 ht hvm hw1 hB hz1 hk1 hS1 => ?_)
  have e9 : r1 = r := hw1
  rw [e9]
  have hown : va_P g.1 vwCl (wd am τ' 0 (shM g)) H1 := by rw [← ht]; exact hB
  have hoth : va_P g.1 vwCl (wd ad σ 0 (shC g)) H1 := hP.kept (fun k q hq => by
    have hlt := (hP k q hq).lt
    refine hk1 _ hlt (fun hA => ?_)
    cases hw9 : (shC g)[k]? with
    | none => rw [wd_none hw9] at hq; cases hq
    | some s9 =>
      rw [wd_get0 hw9] at hq
      cases hq
      have hk9 : k < 64 := (List.getElem?_eq_some_iff.mp hw9).1
      rcases hA with ⟨j, hj, h⟩ | h
      · exact C.2.2.2.2.1 k j hk9 hj h
      · exact absurd hlt (Nat.not_lt.mpr h))
  exact kk H1 locs1 ls hoth hown hS1 hL
end LAW
theorem lgc_self (r : Int64) : lg_cmp r r = 0 := by unfold lg_cmp; simp
theorem law_le {L k : Nat} {x3 : Int32} (hL3 : L ≤ 3072) (ex : x3 = nI k) (h : k + 6 ≤ L) : ¬ (Int32.ofNat L - 6 < x3) := by
  rw [ex]
  show ¬ (nI L - nI 6 < nI k)
  rw [pk_sub (by omega)]
  exact nI_nlt (by omega) (by omega)
theorem law_gt {L k : Nat} {x3 : Int32} (hL3 : L ≤ 3072) (ex : x3 = nI k) (hk : k ≤ L + 6) (h : L < k + 6) : Int32.ofNat L - 6 < x3 := by
  rw [ex]
  show nI L - nI 6 < nI k
  rw [Int32.lt_iff_toInt_lt, pk_sub_toInt (by omega) (by omega), nI_toInt (by omega)]
  omega
set_option maxHeartbeats 4000000 in
set_option maxRecDepth 100000 in
theorem law_end {p : Program} {l : Launch} {e : Env} {s : State} {m : MethodId} {below : List Frame} {meth : Method} {c : Code} {g : GG} {cs : CS} {ad am : Nat → Nat} {b L : Nat} {xs : Nat → Int32} (hL3 : L ≤ 3072) (C : Lx p s m #[Value.ref b] c g cs ad am b L xs) (hr : meth.sig.returnType = ret) (hlocks : meth.locks = false) (k : Nat) (σ τ : Mem) (x3 : Int32) (h1 : k ≤ L + 6) (ex : x3 = nI k) (hk : L < k + 6) : Lw p l e s m #[Value.ref b] below meth c g ad am (lw_Z below #[Value.ref b] s) σ τ 600000 7302250 19 [some (.ref b), some (.ref (ad 0)), some (.ref (am 0)), some (.int x3)] [.int x3] := by
  refine l_step (fun H locs ls hS hL k => lv_aload_n C.1.1 C.1.2.1 dL_law_19 rfl (LH_at hL (i := 0) rfl) k) ?_
  refine l_step (fun H locs ls hS hL k => va_slen C.1.1 C.1.2.1 C.2.2.2.2.2.1 C.2.2.2.2.2.2 (Nat.not_le.mpr C.2.2.2.2.2.2) hS dL_law_20 k) ?_
  refine l_step (fun H locs ls hS hL k => lv_bipush (v := 6) C.1.1 C.1.2.1 dL_law_21 (by decide) k) ?_
  refine l_step (fun H locs ls hS hL k => lv_isub C.1.1 C.1.2.1 dL_law_23 k) ?_
  refine l_step (pc2 := 1118) (st2 := []) (fun H locs ls hS hL k9 => lv_icmp_gt (tgt := 1118) C.1.1 C.1.2.1 dL_law_24 (by decide) (fun _ => k9) (fun z => absurd (law_gt hL3 ex h1 hk) z)) ?_
  intro H locs ls hP hM hS hL
  refine lv_iconst (v := 1) C.1.1 C.1.2.1 dL_law_1118 (by decide) ?_
  refine va_forget (fun q hq => hS.2.2 q hq) ?_
  exact lw_ret C.1.1 C.1.2.1 hr hlocks dL_law_1119
set_option maxHeartbeats 40000000 in
set_option maxRecDepth 100000 in
theorem law_loop {p : Program} {l : Launch} {e : Env} {s : State} {m : MethodId} {below : List Frame} {meth : Method} {c : Code} {g : GG} {cs : CS} {ad am : Nat → Nat} {b L : Nat} {xs : Nat → Int32} (hL3 : L ≤ 3072) {Rl : Mem → Mem → Prop} (hst : Steps Rl) (C : Lx p s m #[Value.ref b] c g cs ad am b L xs) (hr : meth.sig.returnType = ret) (hlocks : meth.locks = false) : ∀ (n k : Nat) (σ τ : Mem) (x3 : Int32), k ≤ L + 6 → L + 1 ≤ k + n → x3 = nI k → Rl σ τ → Lw p l e s m #[Value.ref b] below meth c g ad am (lw_Z below #[Value.ref b] s) σ τ 600000 7302250 18 [some (.ref b), some (.ref (ad 0)), some (.ref (am 0)), some (.int x3)] [] := by
  intro n
  induction n with
  | zero =>
    intro k σ τ x3 h1 h2 ex hR
    refine l_step (fun H locs ls hS hL k => lv_iload_n C.1.1 C.1.2.1 dL_law_18 rfl (LH_at hL (i := 3) rfl) k) ?_
    exact law_end hL3 C hr hlocks k σ τ x3 h1 ex (by omega)
  | succ n ih =>
    intro k σ τ x3 h1 h2 ex hR
    refine l_step (fun H locs ls hS hL k => lv_iload_n C.1.1 C.1.2.1 dL_law_18 rfl (LH_at hL (i := 3) rfl) k) ?_
    by_cases hk : L < k + 6
    · exact law_end hL3 C hr hlocks k σ τ x3 h1 ex hk
    · have hin : ∀ j : Nat, j ≤ 5 → vp_in (x3 + nI j) L := fun j hj => by
        rw [ex, nI_add]
        exact vp_in_nI (by omega) (by omega)
      have hin0 : vp_in x3 L := by rw [ex]; exact vp_in_nI (by omega) (by omega)
      have T1 : ∀ σ1 τ1 : Mem, Rl σ1 τ1 → Lw p l e s m #[Value.ref b] below meth c g ad am (lw_Z below #[Value.ref b] s) σ1 τ1 600000 7302250 1112 [some (.ref b), some (.ref (ad 0)), some (.ref (am 0)), some (.int x3)] [] := fun σ1 τ1 hR1 => by
        refine l_iinc C (i := 3) (y := x3 + 6) (lv' := [some (.ref b), some (.ref (ad 0)), some (.ref (am 0)), some (.int (x3 + 6))]) dL_law_1112 rfl rfl (by decide) rfl ?_
        refine l_step (pc2 := 18) (fun H locs ls hS hL k => lv_goto (tgt := 18) C.1.1 C.1.2.1 dL_law_1115 (by decide) k) ?_
        exact ih (k + 6) σ1 τ1 (x3 + 6) (by omega) (by omega) (by rw [ex]; exact nI_add k 6) hR1
      refine l_step (fun H locs ls hS hL k => lv_aload_n C.1.1 C.1.2.1 dL_law_19 rfl (LH_at hL (i := 0) rfl) k) ?_
      refine l_step (fun H locs ls hS hL k => va_slen C.1.1 C.1.2.1 C.2.2.2.2.2.1 C.2.2.2.2.2.2 (Nat.not_le.mpr C.2.2.2.2.2.2) hS dL_law_20 k) ?_
      refine l_step (fun H locs ls hS hL k => lv_bipush (v := 6) C.1.1 C.1.2.1 dL_law_21 (by decide) k) ?_
      refine l_step (fun H locs ls hS hL k => lv_isub C.1.1 C.1.2.1 dL_law_23 k) ?_
      refine l_step (pc2 := 27) (st2 := []) (fun H locs ls hS hL k9 => lv_icmp_gt (tgt := 1118) C.1.1 C.1.2.1 dL_law_24 (by decide) (fun z => absurd z (law_le hL3 ex (by omega))) (fun _ => k9)) ?_
      refine l_step (fun H locs ls hS hL k => lv_aload_n C.1.1 C.1.2.1 dL_law_27 rfl (LH_at hL (i := 0) rfl) k) ?_
      refine l_step (fun H locs ls hS hL k => lv_iload_n C.1.1 C.1.2.1 dL_law_28 rfl (LH_at hL (i := 3) rfl) k) ?_
      refine l_ld C hin0 rfl dL_law_29 ?_
      refine l_step (fun H locs ls hS hL k => lv_bipush (v := 31) C.1.1 C.1.2.1 dL_law_30 (by decide) k) ?_
      refine l_step (fun H locs ls hS hL k => lv_iand C.1.1 C.1.2.1 dL_law_32 k) ?_
      generalize xs x3.toNatClampNeg &&& 31 = w
      have T2 : ∀ σ τ : Mem, Rl σ τ → ∀ w : Int32, Lw p l e s m #[Value.ref b] below meth c g ad am (lw_Z below #[Value.ref b] s) σ τ 600000 7302250 33 [some (.ref b), some (.ref (ad 0)), some (.ref (am 0)), some (.int x3)] [.int w] := fun σ τ hR w => by
        by_cases q0 : w = 0
        · refine l_step (pc2 := 168) (st2 := []) (fun H locs ls hS hL k9 => by rw [q0]; exact lv_tableIn (tgt := 168) C.1.1 C.1.2.1 dL_law_33 (by decide) (by decide) rfl (by decide) k9) ?_
          obtain ⟨r, σ1, τ1, e1, e2, hR1⟩ := hst.1 (xs (x3 + 1).toNatClampNeg) (xs (x3 + 2).toNatClampNeg) (xs (x3 + 3).toNatClampNeg) σ τ hR
          refine l_step (fun H locs ls hS hL k => lv_aload_n C.1.1 C.1.2.1 dL_law_168 rfl (LH_at hL (i := 1) rfl) k) ?_
          refine l_step (fun H locs ls hS hL k => lv_aload_n C.1.1 C.1.2.1 dL_law_169 rfl (LH_at hL (i := 0) rfl) k) ?_
          refine l_step (fun H locs ls hS hL k => lv_iload_n C.1.1 C.1.2.1 dL_law_170 rfl (LH_at hL (i := 3) rfl) k) ?_
          refine l_step (fun H locs ls hS hL k => lv_iconst (v := 1) C.1.1 C.1.2.1 dL_law_171 (by decide) k) ?_
          refine l_step (fun H locs ls hS hL k => lv_iadd C.1.1 C.1.2.1 dL_law_172 k) ?_
          refine l_ld C (hin 1 (by decide)) rfl dL_law_173 ?_
          refine l_step (fun H locs ls hS hL k => lv_aload_n C.1.1 C.1.2.1 dL_law_174 rfl (LH_at hL (i := 0) rfl) k) ?_
          refine l_step (fun H locs ls hS hL k => lv_iload_n C.1.1 C.1.2.1 dL_law_175 rfl (LH_at hL (i := 3) rfl) k) ?_
          refine l_step (fun H locs ls hS hL k => lv_iconst (v := 2) C.1.1 C.1.2.1 dL_law_176 (by decide) k) ?_
          refine l_step (fun H locs ls hS hL k => lv_iadd C.1.1 C.1.2.1 dL_law_177 k) ?_
          refine l_ld C (hin 2 (by decide)) rfl dL_law_178 ?_
          refine l_step (fun H locs ls hS hL k => lv_aload_n C.1.1 C.1.2.1 dL_law_179 rfl (LH_at hL (i := 0) rfl) k) ?_
          refine l_step (fun H locs ls hS hL k => lv_iload_n C.1.1 C.1.2.1 dL_law_180 rfl (LH_at hL (i := 3) rfl) k) ?_
          refine l_step (fun H locs ls hS hL k => lv_iconst (v := 3) C.1.1 C.1.2.1 dL_law_181 (by decide) k) ?_
          refine l_step (fun H locs ls hS hL k => lv_iadd C.1.1 C.1.2.1 dL_law_182 k) ?_
          refine l_ld C (hin 3 (by decide)) rfl dL_law_183 ?_
          refine l_cXI C (av := [.int (xs (x3 + 1).toNatClampNeg), .int (xs (x3 + 2).toNatClampNeg), .int (xs (x3 + 3).toNatClampNeg)]) (st := []) (kX4_set l g cs ad (xs (x3 + 1).toNatClampNeg) (xs (x3 + 2).toNatClampNeg) (xs (x3 + 3).toNatClampNeg) σ) e1 mwX4_set w292 ⟨rfl, rfl⟩ ⟨(Nat.le_of_ble_eq_true rfl), (Nat.le_of_ble_eq_true rfl)⟩ rfl rfl (Nat.le_of_ble_eq_true rfl) ⟨(Nat.le_of_ble_eq_true rfl), (Nat.le_of_ble_eq_true rfl)⟩ dL_law_184 ?_
          refine l_step (fun H locs ls hS hL k => lv_aload_n C.1.1 C.1.2.1 dL_law_187 rfl (LH_at hL (i := 2) rfl) k) ?_
          refine l_step (fun H locs ls hS hL k => lv_aload_n C.1.1 C.1.2.1 dL_law_188 rfl (LH_at hL (i := 0) rfl) k) ?_
          refine l_step (fun H locs ls hS hL k => lv_iload_n C.1.1 C.1.2.1 dL_law_189 rfl (LH_at hL (i := 3) rfl) k) ?_
          refine l_step (fun H locs ls hS hL k => lv_iconst (v := 1) C.1.1 C.1.2.1 dL_law_190 (by decide) k) ?_
          refine l_step (fun H locs ls hS hL k => lv_iadd C.1.1 C.1.2.1 dL_law_191 k) ?_
          refine l_ld C (hin 1 (by decide)) rfl dL_law_192 ?_
          refine l_step (fun H locs ls hS hL k => lv_aload_n C.1.1 C.1.2.1 dL_law_193 rfl (LH_at hL (i := 0) rfl) k) ?_
          refine l_step (fun H locs ls hS hL k => lv_iload_n C.1.1 C.1.2.1 dL_law_194 rfl (LH_at hL (i := 3) rfl) k) ?_
          refine l_step (fun H locs ls hS hL k => lv_iconst (v := 2) C.1.1 C.1.2.1 dL_law_195 (by decide) k) ?_
          refine l_step (fun H locs ls hS hL k => lv_iadd C.1.1 C.1.2.1 dL_law_196 k) ?_
          refine l_ld C (hin 2 (by decide)) rfl dL_law_197 ?_
          refine l_step (fun H locs ls hS hL k => lv_aload_n C.1.1 C.1.2.1 dL_law_198 rfl (LH_at hL (i := 0) rfl) k) ?_
          refine l_step (fun H locs ls hS hL k => lv_iload_n C.1.1 C.1.2.1 dL_law_199 rfl (LH_at hL (i := 3) rfl) k) ?_
          refine l_step (fun H locs ls hS hL k => lv_iconst (v := 3) C.1.1 C.1.2.1 dL_law_200 (by decide) k) ?_
          refine l_step (fun H locs ls hS hL k => lv_iadd C.1.1 C.1.2.1 dL_law_201 k) ?_
          refine l_ld C (hin 3 (by decide)) rfl dL_law_202 ?_
          refine l_cMI C (av := [.int (xs (x3 + 1).toNatClampNeg), .int (xs (x3 + 2).toNatClampNeg), .int (xs (x3 + 3).toNatClampNeg)]) (st := [.int r]) (kX5_set l g cs am (xs (x3 + 1).toNatClampNeg) (xs (x3 + 2).toNatClampNeg) (xs (x3 + 3).toNatClampNeg) τ) e2 mwX5_set w1079 ⟨rfl, rfl⟩ ⟨(Nat.le_of_ble_eq_true rfl), (Nat.le_of_ble_eq_true rfl)⟩ rfl rfl (Nat.le_of_ble_eq_true rfl) ⟨(Nat.le_of_ble_eq_true rfl), (Nat.le_of_ble_eq_true rfl)⟩ dL_law_203 ?_
          refine l_step (pc2 := 1112) (fun H locs ls hS hL k => lv_icmp_eq (tgt := 1112) C.1.1 C.1.2.1 dL_law_206 (by decide) (fun _ => k) (fun z => absurd rfl z)) ?_
          exact T1 σ1 τ1 hR1
        by_cases q1 : w = 1
        · refine l_step (pc2 := 211) (st2 := []) (fun H locs ls hS hL k9 => by rw [q1]; exact lv_tableIn (tgt := 211) C.1.1 C.1.2.1 dL_law_33 (by decide) (by decide) rfl (by decide) k9) ?_
          obtain ⟨r, σ1, τ1, e1, e2, hR1⟩ := hst.2.1 (xs (x3 + 1).toNatClampNeg) (xs (x3 + 2).toNatClampNeg) (xs (x3 + 3).toNatClampNeg) σ τ hR
          refine l_step (fun H locs ls hS hL k => lv_aload_n C.1.1 C.1.2.1 dL_law_211 rfl (LH_at hL (i := 1) rfl) k) ?_
          refine l_step (fun H locs ls hS hL k => lv_aload_n C.1.1 C.1.2.1 dL_law_212 rfl (LH_at hL (i := 0) rfl) k) ?_
          refine l_step (fun H locs ls hS hL k => lv_iload_n C.1.1 C.1.2.1 dL_law_213 rfl (LH_at hL (i := 3) rfl) k) ?_
          refine l_step (fun H locs ls hS hL k => lv_iconst (v := 1) C.1.1 C.1.2.1 dL_law_214 (by decide) k) ?_
          refine l_step (fun H locs ls hS hL k => lv_iadd C.1.1 C.1.2.1 dL_law_215 k) ?_
          refine l_ld C (hin 1 (by decide)) rfl dL_law_216 ?_
          refine l_step (fun H locs ls hS hL k => lv_aload_n C.1.1 C.1.2.1 dL_law_217 rfl (LH_at hL (i := 0) rfl) k) ?_
          refine l_step (fun H locs ls hS hL k => lv_iload_n C.1.1 C.1.2.1 dL_law_218 rfl (LH_at hL (i := 3) rfl) k) ?_
          refine l_step (fun H locs ls hS hL k => lv_iconst (v := 2) C.1.1 C.1.2.1 dL_law_219 (by decide) k) ?_
          refine l_step (fun H locs ls hS hL k => lv_iadd C.1.1 C.1.2.1 dL_law_220 k) ?_
          refine l_ld C (hin 2 (by decide)) rfl dL_law_221 ?_
          refine l_step (fun H locs ls hS hL k => lv_aload_n C.1.1 C.1.2.1 dL_law_222 rfl (LH_at hL (i := 0) rfl) k) ?_
          refine l_step (fun H locs ls hS hL k => lv_iload_n C.1.1 C.1.2.1 dL_law_223 rfl (LH_at hL (i := 3) rfl) k) ?_
          refine l_step (fun H locs ls hS hL k => lv_iconst (v := 3) C.1.1 C.1.2.1 dL_law_224 (by decide) k) ?_
          refine l_step (fun H locs ls hS hL k => lv_iadd C.1.1 C.1.2.1 dL_law_225 k) ?_
          refine l_ld C (hin 3 (by decide)) rfl dL_law_226 ?_
          refine l_cXI C (av := [.int (xs (x3 + 1).toNatClampNeg), .int (xs (x3 + 2).toNatClampNeg), .int (xs (x3 + 3).toNatClampNeg)]) (st := []) (kX4_dust l g cs ad (xs (x3 + 1).toNatClampNeg) (xs (x3 + 2).toNatClampNeg) (xs (x3 + 3).toNatClampNeg) σ) e1 mwX4_dust w332 ⟨rfl, rfl⟩ ⟨(Nat.le_of_ble_eq_true rfl), (Nat.le_of_ble_eq_true rfl)⟩ rfl rfl (Nat.le_of_ble_eq_true rfl) ⟨(Nat.le_of_ble_eq_true rfl), (Nat.le_of_ble_eq_true rfl)⟩ dL_law_227 ?_
          refine l_step (fun H locs ls hS hL k => lv_aload_n C.1.1 C.1.2.1 dL_law_230 rfl (LH_at hL (i := 2) rfl) k) ?_
          refine l_step (fun H locs ls hS hL k => lv_aload_n C.1.1 C.1.2.1 dL_law_231 rfl (LH_at hL (i := 0) rfl) k) ?_
          refine l_step (fun H locs ls hS hL k => lv_iload_n C.1.1 C.1.2.1 dL_law_232 rfl (LH_at hL (i := 3) rfl) k) ?_
          refine l_step (fun H locs ls hS hL k => lv_iconst (v := 1) C.1.1 C.1.2.1 dL_law_233 (by decide) k) ?_
          refine l_step (fun H locs ls hS hL k => lv_iadd C.1.1 C.1.2.1 dL_law_234 k) ?_
          refine l_ld C (hin 1 (by decide)) rfl dL_law_235 ?_
          refine l_step (fun H locs ls hS hL k => lv_aload_n C.1.1 C.1.2.1 dL_law_236 rfl (LH_at hL (i := 0) rfl) k) ?_
          refine l_step (fun H locs ls hS hL k => lv_iload_n C.1.1 C.1.2.1 dL_law_237 rfl (LH_at hL (i := 3) rfl) k) ?_
          refine l_step (fun H locs ls hS hL k => lv_iconst (v := 2) C.1.1 C.1.2.1 dL_law_238 (by decide) k) ?_
          refine l_step (fun H locs ls hS hL k => lv_iadd C.1.1 C.1.2.1 dL_law_239 k) ?_
          refine l_ld C (hin 2 (by decide)) rfl dL_law_240 ?_
          refine l_step (fun H locs ls hS hL k => lv_aload_n C.1.1 C.1.2.1 dL_law_241 rfl (LH_at hL (i := 0) rfl) k) ?_
          refine l_step (fun H locs ls hS hL k => lv_iload_n C.1.1 C.1.2.1 dL_law_242 rfl (LH_at hL (i := 3) rfl) k) ?_
          refine l_step (fun H locs ls hS hL k => lv_iconst (v := 3) C.1.1 C.1.2.1 dL_law_243 (by decide) k) ?_
          refine l_step (fun H locs ls hS hL k => lv_iadd C.1.1 C.1.2.1 dL_law_244 k) ?_
          refine l_ld C (hin 3 (by decide)) rfl dL_law_245 ?_
          refine l_cMI C (av := [.int (xs (x3 + 1).toNatClampNeg), .int (xs (x3 + 2).toNatClampNeg), .int (xs (x3 + 3).toNatClampNeg)]) (st := [.int r]) (kX5_dust l g cs am (xs (x3 + 1).toNatClampNeg) (xs (x3 + 2).toNatClampNeg) (xs (x3 + 3).toNatClampNeg) τ) e2 mwX5_dust w1212 ⟨rfl, rfl⟩ ⟨(Nat.le_of_ble_eq_true rfl), (Nat.le_of_ble_eq_true rfl)⟩ rfl rfl (Nat.le_of_ble_eq_true rfl) ⟨(Nat.le_of_ble_eq_true rfl), (Nat.le_of_ble_eq_true rfl)⟩ dL_law_246 ?_
          refine l_step (pc2 := 1112) (fun H locs ls hS hL k => lv_icmp_eq (tgt := 1112) C.1.1 C.1.2.1 dL_law_249 (by decide) (fun _ => k) (fun z => absurd rfl z)) ?_
          exact T1 σ1 τ1 hR1
        by_cases q2 : w = 2
        · refine l_step (pc2 := 254) (st2 := []) (fun H locs ls hS hL k9 => by rw [q2]; exact lv_tableIn (tgt := 254) C.1.1 C.1.2.1 dL_law_33 (by decide) (by decide) rfl (by decide) k9) ?_
          obtain ⟨r, σ1, τ1, e1, e2, hR1⟩ := hst.2.2.1 (xs (x3 + 1).toNatClampNeg) (xs (x3 + 2).toNatClampNeg) σ τ hR
          refine l_step (fun H locs ls hS hL k => lv_aload_n C.1.1 C.1.2.1 dL_law_254 rfl (LH_at hL (i := 1) rfl) k) ?_
          refine l_step (fun H locs ls hS hL k => lv_aload_n C.1.1 C.1.2.1 dL_law_255 rfl (LH_at hL (i := 0) rfl) k) ?_
          refine l_step (fun H locs ls hS hL k => lv_iload_n C.1.1 C.1.2.1 dL_law_256 rfl (LH_at hL (i := 3) rfl) k) ?_
          refine l_step (fun H locs ls hS hL k => lv_iconst (v := 1) C.1.1 C.1.2.1 dL_law_257 (by decide) k) ?_
          refine l_step (fun H locs ls hS hL k => lv_iadd C.1.1 C.1.2.1 dL_law_258 k) ?_
          refine l_ld C (hin 1 (by decide)) rfl dL_law_259 ?_
          refine l_step (fun H locs ls hS hL k => lv_aload_n C.1.1 C.1.2.1 dL_law_260 rfl (LH_at hL (i := 0) rfl) k) ?_
          refine l_step (fun H locs ls hS hL k => lv_iload_n C.1.1 C.1.2.1 dL_law_261 rfl (LH_at hL (i := 3) rfl) k) ?_
          refine l_step (fun H locs ls hS hL k => lv_iconst (v := 2) C.1.1 C.1.2.1 dL_law_262 (by decide) k) ?_
          refine l_step (fun H locs ls hS hL k => lv_iadd C.1.1 C.1.2.1 dL_law_263 k) ?_
          refine l_ld C (hin 2 (by decide)) rfl dL_law_264 ?_
          refine l_cXI C (av := [.int (xs (x3 + 1).toNatClampNeg), .int (xs (x3 + 2).toNatClampNeg)]) (st := []) (kX4_told l g cs ad (xs (x3 + 1).toNatClampNeg) (xs (x3 + 2).toNatClampNeg) σ) e1 mwX4_told w343 ⟨rfl, rfl⟩ ⟨(Nat.le_of_ble_eq_true rfl), (Nat.le_of_ble_eq_true rfl)⟩ rfl rfl (Nat.le_of_ble_eq_true rfl) ⟨(Nat.le_of_ble_eq_true rfl), (Nat.le_of_ble_eq_true rfl)⟩ dL_law_265 ?_
          refine l_step (fun H locs ls hS hL k => lv_aload_n C.1.1 C.1.2.1 dL_law_268 rfl (LH_at hL (i := 2) rfl) k) ?_
          refine l_step (fun H locs ls hS hL k => lv_aload_n C.1.1 C.1.2.1 dL_law_269 rfl (LH_at hL (i := 0) rfl) k) ?_
          refine l_step (fun H locs ls hS hL k => lv_iload_n C.1.1 C.1.2.1 dL_law_270 rfl (LH_at hL (i := 3) rfl) k) ?_
          refine l_step (fun H locs ls hS hL k => lv_iconst (v := 1) C.1.1 C.1.2.1 dL_law_271 (by decide) k) ?_
          refine l_step (fun H locs ls hS hL k => lv_iadd C.1.1 C.1.2.1 dL_law_272 k) ?_
          refine l_ld C (hin 1 (by decide)) rfl dL_law_273 ?_
          refine l_step (fun H locs ls hS hL k => lv_aload_n C.1.1 C.1.2.1 dL_law_274 rfl (LH_at hL (i := 0) rfl) k) ?_
          refine l_step (fun H locs ls hS hL k => lv_iload_n C.1.1 C.1.2.1 dL_law_275 rfl (LH_at hL (i := 3) rfl) k) ?_
          refine l_step (fun H locs ls hS hL k => lv_iconst (v := 2) C.1.1 C.1.2.1 dL_law_276 (by decide) k) ?_
          refine l_step (fun H locs ls hS hL k => lv_iadd C.1.1 C.1.2.1 dL_law_277 k) ?_
          refine l_ld C (hin 2 (by decide)) rfl dL_law_278 ?_
          refine l_cMI C (av := [.int (xs (x3 + 1).toNatClampNeg), .int (xs (x3 + 2).toNatClampNeg)]) (st := [.int r]) (kX5_told l g cs am (xs (x3 + 1).toNatClampNeg) (xs (x3 + 2).toNatClampNeg) τ) e2 mwX5_told w1218 ⟨rfl, rfl⟩ ⟨(Nat.le_of_ble_eq_true rfl), (Nat.le_of_ble_eq_true rfl)⟩ rfl rfl (Nat.le_of_ble_eq_true rfl) ⟨(Nat.le_of_ble_eq_true rfl), (Nat.le_of_ble_eq_true rfl)⟩ dL_law_279 ?_
          refine l_step (pc2 := 1112) (fun H locs ls hS hL k => lv_icmp_eq (tgt := 1112) C.1.1 C.1.2.1 dL_law_282 (by decide) (fun _ => k) (fun z => absurd rfl z)) ?_
          exact T1 σ1 τ1 hR1
        by_cases q3 : w = 3
        · refine l_step (pc2 := 287) (st2 := []) (fun H locs ls hS hL k9 => by rw [q3]; exact lv_tableIn (tgt := 287) C.1.1 C.1.2.1 dL_law_33 (by decide) (by decide) rfl (by decide) k9) ?_
          obtain ⟨r, σ1, τ1, e1, e2, hR1⟩ := hst.2.2.2.1 (xs (x3 + 1).toNatClampNeg) σ τ hR
          refine l_step (fun H locs ls hS hL k => lv_aload_n C.1.1 C.1.2.1 dL_law_287 rfl (LH_at hL (i := 1) rfl) k) ?_
          refine l_step (fun H locs ls hS hL k => lv_aload_n C.1.1 C.1.2.1 dL_law_288 rfl (LH_at hL (i := 0) rfl) k) ?_
          refine l_step (fun H locs ls hS hL k => lv_iload_n C.1.1 C.1.2.1 dL_law_289 rfl (LH_at hL (i := 3) rfl) k) ?_
          refine l_step (fun H locs ls hS hL k => lv_iconst (v := 1) C.1.1 C.1.2.1 dL_law_290 (by decide) k) ?_
          refine l_step (fun H locs ls hS hL k => lv_iadd C.1.1 C.1.2.1 dL_law_291 k) ?_
          refine l_ld C (hin 1 (by decide)) rfl dL_law_292 ?_
          refine l_cXI C (av := [.int (xs (x3 + 1).toNatClampNeg)]) (st := []) (kX4_feed l g cs ad (xs (x3 + 1).toNatClampNeg) σ) e1 mwX4_feed w407 ⟨rfl, rfl⟩ ⟨(Nat.le_of_ble_eq_true rfl), (Nat.le_of_ble_eq_true rfl)⟩ rfl rfl (Nat.le_of_ble_eq_true rfl) ⟨(Nat.le_of_ble_eq_true rfl), (Nat.le_of_ble_eq_true rfl)⟩ dL_law_293 ?_
          refine l_step (fun H locs ls hS hL k => lv_aload_n C.1.1 C.1.2.1 dL_law_296 rfl (LH_at hL (i := 2) rfl) k) ?_
          refine l_step (fun H locs ls hS hL k => lv_aload_n C.1.1 C.1.2.1 dL_law_297 rfl (LH_at hL (i := 0) rfl) k) ?_
          refine l_step (fun H locs ls hS hL k => lv_iload_n C.1.1 C.1.2.1 dL_law_298 rfl (LH_at hL (i := 3) rfl) k) ?_
          refine l_step (fun H locs ls hS hL k => lv_iconst (v := 1) C.1.1 C.1.2.1 dL_law_299 (by decide) k) ?_
          refine l_step (fun H locs ls hS hL k => lv_iadd C.1.1 C.1.2.1 dL_law_300 k) ?_
          refine l_ld C (hin 1 (by decide)) rfl dL_law_301 ?_
          refine l_cMI C (av := [.int (xs (x3 + 1).toNatClampNeg)]) (st := [.int r]) (kX5_feed l g cs am (xs (x3 + 1).toNatClampNeg) τ) e2 mwX5_feed w1219 ⟨rfl, rfl⟩ ⟨(Nat.le_of_ble_eq_true rfl), (Nat.le_of_ble_eq_true rfl)⟩ rfl rfl (Nat.le_of_ble_eq_true rfl) ⟨(Nat.le_of_ble_eq_true rfl), (Nat.le_of_ble_eq_true rfl)⟩ dL_law_302 ?_
          refine l_step (pc2 := 1112) (fun H locs ls hS hL k => lv_icmp_eq (tgt := 1112) C.1.1 C.1.2.1 dL_law_305 (by decide) (fun _ => k) (fun z => absurd rfl z)) ?_
          exact T1 σ1 τ1 hR1
        by_cases q4 : w = 4
        · refine l_step (pc2 := 310) (st2 := []) (fun H locs ls hS hL k9 => by rw [q4]; exact lv_tableIn (tgt := 310) C.1.1 C.1.2.1 dL_law_33 (by decide) (by decide) rfl (by decide) k9) ?_
          obtain ⟨r, σ1, τ1, e1, e2, hR1⟩ := hst.2.2.2.2.1 σ τ hR
          refine l_step (fun H locs ls hS hL k => lv_aload_n C.1.1 C.1.2.1 dL_law_310 rfl (LH_at hL (i := 1) rfl) k) ?_
          refine l_cXI C (av := []) (st := []) (kX4_text l g cs ad σ) e1 mwX4_text w415 ⟨rfl, rfl⟩ ⟨(Nat.le_of_ble_eq_true rfl), (Nat.le_of_ble_eq_true rfl)⟩ rfl rfl (Nat.le_of_ble_eq_true rfl) ⟨(Nat.le_of_ble_eq_true rfl), (Nat.le_of_ble_eq_true rfl)⟩ dL_law_311 ?_
          refine l_step (fun H locs ls hS hL k => lv_aload_n C.1.1 C.1.2.1 dL_law_314 rfl (LH_at hL (i := 2) rfl) k) ?_
          refine l_cMI C (av := []) (st := [.int r]) (kX5_text l g cs am τ) e2 mwX5_text w1224 ⟨rfl, rfl⟩ ⟨(Nat.le_of_ble_eq_true rfl), (Nat.le_of_ble_eq_true rfl)⟩ rfl rfl (Nat.le_of_ble_eq_true rfl) ⟨(Nat.le_of_ble_eq_true rfl), (Nat.le_of_ble_eq_true rfl)⟩ dL_law_315 ?_
          refine l_step (pc2 := 1112) (fun H locs ls hS hL k => lv_icmp_eq (tgt := 1112) C.1.1 C.1.2.1 dL_law_318 (by decide) (fun _ => k) (fun z => absurd rfl z)) ?_
          exact T1 σ1 τ1 hR1
        by_cases q5 : w = 5
        · refine l_step (pc2 := 323) (st2 := []) (fun H locs ls hS hL k9 => by rw [q5]; exact lv_tableIn (tgt := 323) C.1.1 C.1.2.1 dL_law_33 (by decide) (by decide) rfl (by decide) k9) ?_
          obtain ⟨r, σ1, τ1, e1, e2, hR1⟩ := hst.2.2.2.2.2.1 (xs (x3 + 1).toNatClampNeg) σ τ hR
          refine l_step (fun H locs ls hS hL k => lv_aload_n C.1.1 C.1.2.1 dL_law_323 rfl (LH_at hL (i := 1) rfl) k) ?_
          refine l_step (fun H locs ls hS hL k => lv_aload_n C.1.1 C.1.2.1 dL_law_324 rfl (LH_at hL (i := 0) rfl) k) ?_
          refine l_step (fun H locs ls hS hL k => lv_iload_n C.1.1 C.1.2.1 dL_law_325 rfl (LH_at hL (i := 3) rfl) k) ?_
          refine l_step (fun H locs ls hS hL k => lv_iconst (v := 1) C.1.1 C.1.2.1 dL_law_326 (by decide) k) ?_
          refine l_step (fun H locs ls hS hL k => lv_iadd C.1.1 C.1.2.1 dL_law_327 k) ?_
          refine l_ld C (hin 1 (by decide)) rfl dL_law_328 ?_
          refine l_cXI C (av := [.int (xs (x3 + 1).toNatClampNeg)]) (st := []) (kX4_force l g cs ad (xs (x3 + 1).toNatClampNeg) σ) e1 mwX4_force w628 ⟨rfl, rfl⟩ ⟨(Nat.le_of_ble_eq_true rfl), (Nat.le_of_ble_eq_true rfl)⟩ rfl rfl (Nat.le_of_ble_eq_true rfl) ⟨(Nat.le_of_ble_eq_true rfl), (Nat.le_of_ble_eq_true rfl)⟩ dL_law_329 ?_
          refine l_step (fun H locs ls hS hL k => lv_aload_n C.1.1 C.1.2.1 dL_law_332 rfl (LH_at hL (i := 2) rfl) k) ?_
          refine l_step (fun H locs ls hS hL k => lv_aload_n C.1.1 C.1.2.1 dL_law_333 rfl (LH_at hL (i := 0) rfl) k) ?_
          refine l_step (fun H locs ls hS hL k => lv_iload_n C.1.1 C.1.2.1 dL_law_334 rfl (LH_at hL (i := 3) rfl) k) ?_
          refine l_step (fun H locs ls hS hL k => lv_iconst (v := 1) C.1.1 C.1.2.1 dL_law_335 (by decide) k) ?_
          refine l_step (fun H locs ls hS hL k => lv_iadd C.1.1 C.1.2.1 dL_law_336 k) ?_
          refine l_ld C (hin 1 (by decide)) rfl dL_law_337 ?_
          refine l_cMI C (av := [.int (xs (x3 + 1).toNatClampNeg)]) (st := [.int r]) (kX5_force l g cs am (xs (x3 + 1).toNatClampNeg) τ) e2 mwX5_force w1228 ⟨rfl, rfl⟩ ⟨(Nat.le_of_ble_eq_true rfl), (Nat.le_of_ble_eq_true rfl)⟩ rfl rfl (Nat.le_of_ble_eq_true rfl) ⟨(Nat.le_of_ble_eq_true rfl), (Nat.le_of_ble_eq_true rfl)⟩ dL_law_338 ?_
          refine l_step (pc2 := 1112) (fun H locs ls hS hL k => lv_icmp_eq (tgt := 1112) C.1.1 C.1.2.1 dL_law_341 (by decide) (fun _ => k) (fun z => absurd rfl z)) ?_
          exact T1 σ1 τ1 hR1
        by_cases q6 : w = 6
        · refine l_step (pc2 := 346) (st2 := []) (fun H locs ls hS hL k9 => by rw [q6]; exact lv_tableIn (tgt := 346) C.1.1 C.1.2.1 dL_law_33 (by decide) (by decide) rfl (by decide) k9) ?_
          obtain ⟨r, σ1, τ1, e1, e2, hR1⟩ := hst.2.2.2.2.2.2.1 (xs (x3 + 1).toNatClampNeg) σ τ hR
          refine l_step (fun H locs ls hS hL k => lv_aload_n C.1.1 C.1.2.1 dL_law_346 rfl (LH_at hL (i := 1) rfl) k) ?_
          refine l_step (fun H locs ls hS hL k => lv_aload_n C.1.1 C.1.2.1 dL_law_347 rfl (LH_at hL (i := 0) rfl) k) ?_
          refine l_step (fun H locs ls hS hL k => lv_iload_n C.1.1 C.1.2.1 dL_law_348 rfl (LH_at hL (i := 3) rfl) k) ?_
          refine l_step (fun H locs ls hS hL k => lv_iconst (v := 1) C.1.1 C.1.2.1 dL_law_349 (by decide) k) ?_
          refine l_step (fun H locs ls hS hL k => lv_iadd C.1.1 C.1.2.1 dL_law_350 k) ?_
          refine l_ld C (hin 1 (by decide)) rfl dL_law_351 ?_
          refine l_cXI C (av := [.int (xs (x3 + 1).toNatClampNeg)]) (st := []) (kX4_stroke l g cs ad (xs (x3 + 1).toNatClampNeg) σ) e1 mwX4_stroke w632 ⟨rfl, rfl⟩ ⟨(Nat.le_of_ble_eq_true rfl), (Nat.le_of_ble_eq_true rfl)⟩ rfl rfl (Nat.le_of_ble_eq_true rfl) ⟨(Nat.le_of_ble_eq_true rfl), (Nat.le_of_ble_eq_true rfl)⟩ dL_law_352 ?_
          refine l_step (fun H locs ls hS hL k => lv_aload_n C.1.1 C.1.2.1 dL_law_355 rfl (LH_at hL (i := 2) rfl) k) ?_
          refine l_step (fun H locs ls hS hL k => lv_aload_n C.1.1 C.1.2.1 dL_law_356 rfl (LH_at hL (i := 0) rfl) k) ?_
          refine l_step (fun H locs ls hS hL k => lv_iload_n C.1.1 C.1.2.1 dL_law_357 rfl (LH_at hL (i := 3) rfl) k) ?_
          refine l_step (fun H locs ls hS hL k => lv_iconst (v := 1) C.1.1 C.1.2.1 dL_law_358 (by decide) k) ?_
          refine l_step (fun H locs ls hS hL k => lv_iadd C.1.1 C.1.2.1 dL_law_359 k) ?_
          refine l_ld C (hin 1 (by decide)) rfl dL_law_360 ?_
          refine l_cMI C (av := [.int (xs (x3 + 1).toNatClampNeg)]) (st := [.int r]) (kX5_stroke l g cs am (xs (x3 + 1).toNatClampNeg) τ) e2 mwX5_stroke w1232 ⟨rfl, rfl⟩ ⟨(Nat.le_of_ble_eq_true rfl), (Nat.le_of_ble_eq_true rfl)⟩ rfl rfl (Nat.le_of_ble_eq_true rfl) ⟨(Nat.le_of_ble_eq_true rfl), (Nat.le_of_ble_eq_true rfl)⟩ dL_law_361 ?_
          refine l_step (pc2 := 1112) (fun H locs ls hS hL k => lv_icmp_eq (tgt := 1112) C.1.1 C.1.2.1 dL_law_364 (by decide) (fun _ => k) (fun z => absurd rfl z)) ?_
          exact T1 σ1 τ1 hR1
        by_cases q7 : w = 7
        · refine l_step (pc2 := 369) (st2 := []) (fun H locs ls hS hL k9 => by rw [q7]; exact lv_tableIn (tgt := 369) C.1.1 C.1.2.1 dL_law_33 (by decide) (by decide) rfl (by decide) k9) ?_
          obtain ⟨r, σ1, τ1, e1, e2, hR1⟩ := hst.2.2.2.2.2.2.2.1 σ τ hR
          refine l_step (fun H locs ls hS hL k => lv_aload_n C.1.1 C.1.2.1 dL_law_369 rfl (LH_at hL (i := 1) rfl) k) ?_
          refine l_cXI C (av := []) (st := []) (kX4_week l g cs ad σ) e1 mwX4_week w660 ⟨rfl, rfl⟩ ⟨(Nat.le_of_ble_eq_true rfl), (Nat.le_of_ble_eq_true rfl)⟩ rfl rfl (Nat.le_of_ble_eq_true rfl) ⟨(Nat.le_of_ble_eq_true rfl), (Nat.le_of_ble_eq_true rfl)⟩ dL_law_370 ?_
          refine l_step (fun H locs ls hS hL k => lv_aload_n C.1.1 C.1.2.1 dL_law_373 rfl (LH_at hL (i := 2) rfl) k) ?_
          refine l_cMI C (av := []) (st := [.int r]) (kX5_week l g cs am τ) e2 mwX5_week w1259 ⟨rfl, rfl⟩ ⟨(Nat.le_of_ble_eq_true rfl), (Nat.le_of_ble_eq_true rfl)⟩ rfl rfl (Nat.le_of_ble_eq_true rfl) ⟨(Nat.le_of_ble_eq_true rfl), (Nat.le_of_ble_eq_true rfl)⟩ dL_law_374 ?_
          refine l_step (pc2 := 1112) (fun H locs ls hS hL k => lv_icmp_eq (tgt := 1112) C.1.1 C.1.2.1 dL_law_377 (by decide) (fun _ => k) (fun z => absurd rfl z)) ?_
          exact T1 σ1 τ1 hR1
        by_cases q8 : w = 8
        · refine l_step (pc2 := 382) (st2 := []) (fun H locs ls hS hL k9 => by rw [q8]; exact lv_tableIn (tgt := 382) C.1.1 C.1.2.1 dL_law_33 (by decide) (by decide) rfl (by decide) k9) ?_
          obtain ⟨r, σ1, τ1, e1, e2, hR1⟩ := hst.2.2.2.2.2.2.2.2.1 (xs (x3 + 1).toNatClampNeg) (xs (x3 + 2).toNatClampNeg) σ τ hR
          refine l_step (fun H locs ls hS hL k => lv_aload_n C.1.1 C.1.2.1 dL_law_382 rfl (LH_at hL (i := 1) rfl) k) ?_
          refine l_step (fun H locs ls hS hL k => lv_aload_n C.1.1 C.1.2.1 dL_law_383 rfl (LH_at hL (i := 0) rfl) k) ?_
          refine l_step (fun H locs ls hS hL k => lv_iload_n C.1.1 C.1.2.1 dL_law_384 rfl (LH_at hL (i := 3) rfl) k) ?_
          refine l_step (fun H locs ls hS hL k => lv_iconst (v := 1) C.1.1 C.1.2.1 dL_law_385 (by decide) k) ?_
          refine l_step (fun H locs ls hS hL k => lv_iadd C.1.1 C.1.2.1 dL_law_386 k) ?_
          refine l_ld C (hin 1 (by decide)) rfl dL_law_387 ?_
          refine l_step (fun H locs ls hS hL k => lv_aload_n C.1.1 C.1.2.1 dL_law_388 rfl (LH_at hL (i := 0) rfl) k) ?_
          refine l_step (fun H locs ls hS hL k => lv_iload_n C.1.1 C.1.2.1 dL_law_389 rfl (LH_at hL (i := 3) rfl) k) ?_
          refine l_step (fun H locs ls hS hL k => lv_iconst (v := 2) C.1.1 C.1.2.1 dL_law_390 (by decide) k) ?_
          refine l_step (fun H locs ls hS hL k => lv_iadd C.1.1 C.1.2.1 dL_law_391 k) ?_
          refine l_ld C (hin 2 (by decide)) rfl dL_law_392 ?_
          refine l_cXI C (av := [.int (xs (x3 + 1).toNatClampNeg), .int (xs (x3 + 2).toNatClampNeg)]) (st := []) (kX4_sweep l g cs ad (xs (x3 + 1).toNatClampNeg) (xs (x3 + 2).toNatClampNeg) σ) e1 mwX4_sweep w669 ⟨rfl, rfl⟩ ⟨(Nat.le_of_ble_eq_true rfl), (Nat.le_of_ble_eq_true rfl)⟩ rfl rfl (Nat.le_of_ble_eq_true rfl) ⟨(Nat.le_of_ble_eq_true rfl), (Nat.le_of_ble_eq_true rfl)⟩ dL_law_393 ?_
          refine l_step (fun H locs ls hS hL k => lv_aload_n C.1.1 C.1.2.1 dL_law_396 rfl (LH_at hL (i := 2) rfl) k) ?_
          refine l_step (fun H locs ls hS hL k => lv_aload_n C.1.1 C.1.2.1 dL_law_397 rfl (LH_at hL (i := 0) rfl) k) ?_
          refine l_step (fun H locs ls hS hL k => lv_iload_n C.1.1 C.1.2.1 dL_law_398 rfl (LH_at hL (i := 3) rfl) k) ?_
          refine l_step (fun H locs ls hS hL k => lv_iconst (v := 1) C.1.1 C.1.2.1 dL_law_399 (by decide) k) ?_
          refine l_step (fun H locs ls hS hL k => lv_iadd C.1.1 C.1.2.1 dL_law_400 k) ?_
          refine l_ld C (hin 1 (by decide)) rfl dL_law_401 ?_
          refine l_step (fun H locs ls hS hL k => lv_aload_n C.1.1 C.1.2.1 dL_law_402 rfl (LH_at hL (i := 0) rfl) k) ?_
          refine l_step (fun H locs ls hS hL k => lv_iload_n C.1.1 C.1.2.1 dL_law_403 rfl (LH_at hL (i := 3) rfl) k) ?_
          refine l_step (fun H locs ls hS hL k => lv_iconst (v := 2) C.1.1 C.1.2.1 dL_law_404 (by decide) k) ?_
          refine l_step (fun H locs ls hS hL k => lv_iadd C.1.1 C.1.2.1 dL_law_405 k) ?_
          refine l_ld C (hin 2 (by decide)) rfl dL_law_406 ?_
          refine l_cMI C (av := [.int (xs (x3 + 1).toNatClampNeg), .int (xs (x3 + 2).toNatClampNeg)]) (st := [.int r]) (kX5_sweep l g cs am (xs (x3 + 1).toNatClampNeg) (xs (x3 + 2).toNatClampNeg) τ) e2 mwX5_sweep w1267 ⟨rfl, rfl⟩ ⟨(Nat.le_of_ble_eq_true rfl), (Nat.le_of_ble_eq_true rfl)⟩ rfl rfl (Nat.le_of_ble_eq_true rfl) ⟨(Nat.le_of_ble_eq_true rfl), (Nat.le_of_ble_eq_true rfl)⟩ dL_law_407 ?_
          refine l_step (pc2 := 1112) (fun H locs ls hS hL k => lv_icmp_eq (tgt := 1112) C.1.1 C.1.2.1 dL_law_410 (by decide) (fun _ => k) (fun z => absurd rfl z)) ?_
          exact T1 σ1 τ1 hR1
        by_cases q9 : w = 9
        · refine l_step (pc2 := 415) (st2 := []) (fun H locs ls hS hL k9 => by rw [q9]; exact lv_tableIn (tgt := 415) C.1.1 C.1.2.1 dL_law_33 (by decide) (by decide) rfl (by decide) k9) ?_
          obtain ⟨r, σ1, τ1, e1, e2, hR1⟩ := hst.2.2.2.2.2.2.2.2.2.1 (xs (x3 + 1).toNatClampNeg) σ τ hR
          refine l_step (fun H locs ls hS hL k => lv_aload_n C.1.1 C.1.2.1 dL_law_415 rfl (LH_at hL (i := 1) rfl) k) ?_
          refine l_step (fun H locs ls hS hL k => lv_aload_n C.1.1 C.1.2.1 dL_law_416 rfl (LH_at hL (i := 0) rfl) k) ?_
          refine l_step (fun H locs ls hS hL k => lv_iload_n C.1.1 C.1.2.1 dL_law_417 rfl (LH_at hL (i := 3) rfl) k) ?_
          refine l_step (fun H locs ls hS hL k => lv_iconst (v := 1) C.1.1 C.1.2.1 dL_law_418 (by decide) k) ?_
          refine l_step (fun H locs ls hS hL k => lv_iadd C.1.1 C.1.2.1 dL_law_419 k) ?_
          refine l_ld C (hin 1 (by decide)) rfl dL_law_420 ?_
          refine l_cXI C (av := [.int (xs (x3 + 1).toNatClampNeg)]) (st := []) (kX4_sweeps l g cs ad (xs (x3 + 1).toNatClampNeg) σ) e1 mwX4_sweeps w725 ⟨rfl, rfl⟩ ⟨(Nat.le_of_ble_eq_true rfl), (Nat.le_of_ble_eq_true rfl)⟩ rfl rfl (Nat.le_of_ble_eq_true rfl) ⟨(Nat.le_of_ble_eq_true rfl), (Nat.le_of_ble_eq_true rfl)⟩ dL_law_421 ?_
          refine l_step (fun H locs ls hS hL k => lv_aload_n C.1.1 C.1.2.1 dL_law_424 rfl (LH_at hL (i := 2) rfl) k) ?_
          refine l_step (fun H locs ls hS hL k => lv_aload_n C.1.1 C.1.2.1 dL_law_425 rfl (LH_at hL (i := 0) rfl) k) ?_
          refine l_step (fun H locs ls hS hL k => lv_iload_n C.1.1 C.1.2.1 dL_law_426 rfl (LH_at hL (i := 3) rfl) k) ?_
          refine l_step (fun H locs ls hS hL k => lv_iconst (v := 1) C.1.1 C.1.2.1 dL_law_427 (by decide) k) ?_
          refine l_step (fun H locs ls hS hL k => lv_iadd C.1.1 C.1.2.1 dL_law_428 k) ?_
          refine l_ld C (hin 1 (by decide)) rfl dL_law_429 ?_
          refine l_cMI C (av := [.int (xs (x3 + 1).toNatClampNeg)]) (st := [.int r]) (kX5_sweeps l g cs am (xs (x3 + 1).toNatClampNeg) τ) e2 mwX5_sweeps w1307 ⟨rfl, rfl⟩ ⟨(Nat.le_of_ble_eq_true rfl), (Nat.le_of_ble_eq_true rfl)⟩ rfl rfl (Nat.le_of_ble_eq_true rfl) ⟨(Nat.le_of_ble_eq_true rfl), (Nat.le_of_ble_eq_true rfl)⟩ dL_law_430 ?_
          refine l_step (pc2 := 1112) (fun H locs ls hS hL k => lv_icmp_eq (tgt := 1112) C.1.1 C.1.2.1 dL_law_433 (by decide) (fun _ => k) (fun z => absurd rfl z)) ?_
          exact T1 σ1 τ1 hR1
        by_cases q10 : w = 10
        · refine l_step (pc2 := 438) (st2 := []) (fun H locs ls hS hL k9 => by rw [q10]; exact lv_tableIn (tgt := 438) C.1.1 C.1.2.1 dL_law_33 (by decide) (by decide) rfl (by decide) k9) ?_
          obtain ⟨r, σ1, τ1, e1, e2, hR1⟩ := hst.2.2.2.2.2.2.2.2.2.2.1 (xs (x3 + 1).toNatClampNeg) σ τ hR
          refine l_step (fun H locs ls hS hL k => lv_aload_n C.1.1 C.1.2.1 dL_law_438 rfl (LH_at hL (i := 1) rfl) k) ?_
          refine l_step (fun H locs ls hS hL k => lv_aload_n C.1.1 C.1.2.1 dL_law_439 rfl (LH_at hL (i := 0) rfl) k) ?_
          refine l_step (fun H locs ls hS hL k => lv_iload_n C.1.1 C.1.2.1 dL_law_440 rfl (LH_at hL (i := 3) rfl) k) ?_
          refine l_step (fun H locs ls hS hL k => lv_iconst (v := 1) C.1.1 C.1.2.1 dL_law_441 (by decide) k) ?_
          refine l_step (fun H locs ls hS hL k => lv_iadd C.1.1 C.1.2.1 dL_law_442 k) ?_
          refine l_ld C (hin 1 (by decide)) rfl dL_law_443 ?_
          refine l_cXI C (av := [.int (xs (x3 + 1).toNatClampNeg)]) (st := []) (kX4_floor l g cs ad (xs (x3 + 1).toNatClampNeg) σ) e1 mwX4_floor w729 ⟨rfl, rfl⟩ ⟨(Nat.le_of_ble_eq_true rfl), (Nat.le_of_ble_eq_true rfl)⟩ rfl rfl (Nat.le_of_ble_eq_true rfl) ⟨(Nat.le_of_ble_eq_true rfl), (Nat.le_of_ble_eq_true rfl)⟩ dL_law_444 ?_
          refine l_step (fun H locs ls hS hL k => lv_aload_n C.1.1 C.1.2.1 dL_law_447 rfl (LH_at hL (i := 2) rfl) k) ?_
          refine l_step (fun H locs ls hS hL k => lv_aload_n C.1.1 C.1.2.1 dL_law_448 rfl (LH_at hL (i := 0) rfl) k) ?_
          refine l_step (fun H locs ls hS hL k => lv_iload_n C.1.1 C.1.2.1 dL_law_449 rfl (LH_at hL (i := 3) rfl) k) ?_
          refine l_step (fun H locs ls hS hL k => lv_iconst (v := 1) C.1.1 C.1.2.1 dL_law_450 (by decide) k) ?_
          refine l_step (fun H locs ls hS hL k => lv_iadd C.1.1 C.1.2.1 dL_law_451 k) ?_
          refine l_ld C (hin 1 (by decide)) rfl dL_law_452 ?_
          refine l_cMI C (av := [.int (xs (x3 + 1).toNatClampNeg)]) (st := [.int r]) (kX5_floor l g cs am (xs (x3 + 1).toNatClampNeg) τ) e2 mwX5_floor w1311 ⟨rfl, rfl⟩ ⟨(Nat.le_of_ble_eq_true rfl), (Nat.le_of_ble_eq_true rfl)⟩ rfl rfl (Nat.le_of_ble_eq_true rfl) ⟨(Nat.le_of_ble_eq_true rfl), (Nat.le_of_ble_eq_true rfl)⟩ dL_law_453 ?_
          refine l_step (pc2 := 1112) (fun H locs ls hS hL k => lv_icmp_eq (tgt := 1112) C.1.1 C.1.2.1 dL_law_456 (by decide) (fun _ => k) (fun z => absurd rfl z)) ?_
          exact T1 σ1 τ1 hR1
        by_cases q11 : w = 11
        · refine l_step (pc2 := 461) (st2 := []) (fun H locs ls hS hL k9 => by rw [q11]; exact lv_tableIn (tgt := 461) C.1.1 C.1.2.1 dL_law_33 (by decide) (by decide) rfl (by decide) k9) ?_
          obtain ⟨r, σ1, τ1, e1, e2, hR1⟩ := hst.2.2.2.2.2.2.2.2.2.2.2.1 (xs (x3 + 1).toNatClampNeg) σ τ hR
          refine l_step (fun H locs ls hS hL k => lv_aload_n C.1.1 C.1.2.1 dL_law_461 rfl (LH_at hL (i := 1) rfl) k) ?_
          refine l_step (fun H locs ls hS hL k => lv_aload_n C.1.1 C.1.2.1 dL_law_462 rfl (LH_at hL (i := 0) rfl) k) ?_
          refine l_step (fun H locs ls hS hL k => lv_iload_n C.1.1 C.1.2.1 dL_law_463 rfl (LH_at hL (i := 3) rfl) k) ?_
          refine l_step (fun H locs ls hS hL k => lv_iconst (v := 1) C.1.1 C.1.2.1 dL_law_464 (by decide) k) ?_
          refine l_step (fun H locs ls hS hL k => lv_iadd C.1.1 C.1.2.1 dL_law_465 k) ?_
          refine l_ld C (hin 1 (by decide)) rfl dL_law_466 ?_
          refine l_cXL C (av := [.int (xs (x3 + 1).toNatClampNeg)]) (st := []) (kX4_where l g cs ad (xs (x3 + 1).toNatClampNeg) σ) e1 mwX4_where w737 ⟨rfl, rfl⟩ ⟨(Nat.le_of_ble_eq_true rfl), (Nat.le_of_ble_eq_true rfl)⟩ rfl rfl (Nat.le_of_ble_eq_true rfl) ⟨(Nat.le_of_ble_eq_true rfl), (Nat.le_of_ble_eq_true rfl)⟩ dL_law_467 ?_
          refine l_step (fun H locs ls hS hL k => lv_aload_n C.1.1 C.1.2.1 dL_law_470 rfl (LH_at hL (i := 2) rfl) k) ?_
          refine l_step (fun H locs ls hS hL k => lv_aload_n C.1.1 C.1.2.1 dL_law_471 rfl (LH_at hL (i := 0) rfl) k) ?_
          refine l_step (fun H locs ls hS hL k => lv_iload_n C.1.1 C.1.2.1 dL_law_472 rfl (LH_at hL (i := 3) rfl) k) ?_
          refine l_step (fun H locs ls hS hL k => lv_iconst (v := 1) C.1.1 C.1.2.1 dL_law_473 (by decide) k) ?_
          refine l_step (fun H locs ls hS hL k => lv_iadd C.1.1 C.1.2.1 dL_law_474 k) ?_
          refine l_ld C (hin 1 (by decide)) rfl dL_law_475 ?_
          refine l_cML C (av := [.int (xs (x3 + 1).toNatClampNeg)]) (st := [.long r]) (kX5_where l g cs am (xs (x3 + 1).toNatClampNeg) τ) e2 mwX5_where w1319 ⟨rfl, rfl⟩ ⟨(Nat.le_of_ble_eq_true rfl), (Nat.le_of_ble_eq_true rfl)⟩ rfl rfl (Nat.le_of_ble_eq_true rfl) ⟨(Nat.le_of_ble_eq_true rfl), (Nat.le_of_ble_eq_true rfl)⟩ dL_law_476 ?_
          refine l_step (fun H locs ls hS hL k => W.lcmp C.1.1 C.1.2.1 dL_law_479 k) ?_
          refine l_step (pc2 := 1112) (fun H locs ls hS hL k => lv_if_eq (tgt := 1112) C.1.1 C.1.2.1 dL_law_480 (by decide) (fun _ => k) (fun z => absurd (lgc_self _) z)) ?_
          exact T1 σ1 τ1 hR1
        by_cases q12 : w = 12
        · refine l_step (pc2 := 485) (st2 := []) (fun H locs ls hS hL k9 => by rw [q12]; exact lv_tableIn (tgt := 485) C.1.1 C.1.2.1 dL_law_33 (by decide) (by decide) rfl (by decide) k9) ?_
          obtain ⟨r, σ1, τ1, e1, e2, hR1⟩ := hst.2.2.2.2.2.2.2.2.2.2.2.2.1 (xs (x3 + 1).toNatClampNeg) (xs (x3 + 2).toNatClampNeg) σ τ hR
          refine l_step (fun H locs ls hS hL k => lv_aload_n C.1.1 C.1.2.1 dL_law_485 rfl (LH_at hL (i := 1) rfl) k) ?_
          refine l_step (fun H locs ls hS hL k => lv_aload_n C.1.1 C.1.2.1 dL_law_486 rfl (LH_at hL (i := 0) rfl) k) ?_
          refine l_step (fun H locs ls hS hL k => lv_iload_n C.1.1 C.1.2.1 dL_law_487 rfl (LH_at hL (i := 3) rfl) k) ?_
          refine l_step (fun H locs ls hS hL k => lv_iconst (v := 1) C.1.1 C.1.2.1 dL_law_488 (by decide) k) ?_
          refine l_step (fun H locs ls hS hL k => lv_iadd C.1.1 C.1.2.1 dL_law_489 k) ?_
          refine l_ld C (hin 1 (by decide)) rfl dL_law_490 ?_
          refine l_step (fun H locs ls hS hL k => lv_aload_n C.1.1 C.1.2.1 dL_law_491 rfl (LH_at hL (i := 0) rfl) k) ?_
          refine l_step (fun H locs ls hS hL k => lv_iload_n C.1.1 C.1.2.1 dL_law_492 rfl (LH_at hL (i := 3) rfl) k) ?_
          refine l_step (fun H locs ls hS hL k => lv_iconst (v := 2) C.1.1 C.1.2.1 dL_law_493 (by decide) k) ?_
          refine l_step (fun H locs ls hS hL k => lv_iadd C.1.1 C.1.2.1 dL_law_494 k) ?_
          refine l_ld C (hin 2 (by decide)) rfl dL_law_495 ?_
          refine l_cXI C (av := [.int (xs (x3 + 1).toNatClampNeg), .int (xs (x3 + 2).toNatClampNeg)]) (st := []) (kX4_gather l g cs ad (xs (x3 + 1).toNatClampNeg) (xs (x3 + 2).toNatClampNeg) σ) e1 mwX4_gather w751 ⟨rfl, rfl⟩ ⟨(Nat.le_of_ble_eq_true rfl), (Nat.le_of_ble_eq_true rfl)⟩ rfl rfl (Nat.le_of_ble_eq_true rfl) ⟨(Nat.le_of_ble_eq_true rfl), (Nat.le_of_ble_eq_true rfl)⟩ dL_law_496 ?_
          refine l_step (fun H locs ls hS hL k => lv_aload_n C.1.1 C.1.2.1 dL_law_499 rfl (LH_at hL (i := 2) rfl) k) ?_
          refine l_step (fun H locs ls hS hL k => lv_aload_n C.1.1 C.1.2.1 dL_law_500 rfl (LH_at hL (i := 0) rfl) k) ?_
          refine l_step (fun H locs ls hS hL k => lv_iload_n C.1.1 C.1.2.1 dL_law_501 rfl (LH_at hL (i := 3) rfl) k) ?_
          refine l_step (fun H locs ls hS hL k => lv_iconst (v := 1) C.1.1 C.1.2.1 dL_law_502 (by decide) k) ?_
          refine l_step (fun H locs ls hS hL k => lv_iadd C.1.1 C.1.2.1 dL_law_503 k) ?_
          refine l_ld C (hin 1 (by decide)) rfl dL_law_504 ?_
          refine l_step (fun H locs ls hS hL k => lv_aload_n C.1.1 C.1.2.1 dL_law_505 rfl (LH_at hL (i := 0) rfl) k) ?_
          refine l_step (fun H locs ls hS hL k => lv_iload_n C.1.1 C.1.2.1 dL_law_506 rfl (LH_at hL (i := 3) rfl) k) ?_
          refine l_step (fun H locs ls hS hL k => lv_iconst (v := 2) C.1.1 C.1.2.1 dL_law_507 (by decide) k) ?_
          refine l_step (fun H locs ls hS hL k => lv_iadd C.1.1 C.1.2.1 dL_law_508 k) ?_
          refine l_ld C (hin 2 (by decide)) rfl dL_law_509 ?_
          refine l_cMI C (av := [.int (xs (x3 + 1).toNatClampNeg), .int (xs (x3 + 2).toNatClampNeg)]) (st := [.int r]) (kX5_gather l g cs am (xs (x3 + 1).toNatClampNeg) (xs (x3 + 2).toNatClampNeg) τ) e2 mwX5_gather w1328 ⟨rfl, rfl⟩ ⟨(Nat.le_of_ble_eq_true rfl), (Nat.le_of_ble_eq_true rfl)⟩ rfl rfl (Nat.le_of_ble_eq_true rfl) ⟨(Nat.le_of_ble_eq_true rfl), (Nat.le_of_ble_eq_true rfl)⟩ dL_law_510 ?_
          refine l_step (pc2 := 1112) (fun H locs ls hS hL k => lv_icmp_eq (tgt := 1112) C.1.1 C.1.2.1 dL_law_513 (by decide) (fun _ => k) (fun z => absurd rfl z)) ?_
          exact T1 σ1 τ1 hR1
        by_cases q13 : w = 13
        · refine l_step (pc2 := 518) (st2 := []) (fun H locs ls hS hL k9 => by rw [q13]; exact lv_tableIn (tgt := 518) C.1.1 C.1.2.1 dL_law_33 (by decide) (by decide) rfl (by decide) k9) ?_
          obtain ⟨r, σ1, τ1, e1, e2, hR1⟩ := hst.2.2.2.2.2.2.2.2.2.2.2.2.2.1 (xs (x3 + 1).toNatClampNeg) σ τ hR
          refine l_step (fun H locs ls hS hL k => lv_aload_n C.1.1 C.1.2.1 dL_law_518 rfl (LH_at hL (i := 1) rfl) k) ?_
          refine l_step (fun H locs ls hS hL k => lv_aload_n C.1.1 C.1.2.1 dL_law_519 rfl (LH_at hL (i := 0) rfl) k) ?_
          refine l_step (fun H locs ls hS hL k => lv_iload_n C.1.1 C.1.2.1 dL_law_520 rfl (LH_at hL (i := 3) rfl) k) ?_
          refine l_step (fun H locs ls hS hL k => lv_iconst (v := 1) C.1.1 C.1.2.1 dL_law_521 (by decide) k) ?_
          refine l_step (fun H locs ls hS hL k => lv_iadd C.1.1 C.1.2.1 dL_law_522 k) ?_
          refine l_ld C (hin 1 (by decide)) rfl dL_law_523 ?_
          refine l_cXI C (av := [.int (xs (x3 + 1).toNatClampNeg)]) (st := []) (kX4_best l g cs ad (xs (x3 + 1).toNatClampNeg) σ) e1 mwX4_best w767 ⟨rfl, rfl⟩ ⟨(Nat.le_of_ble_eq_true rfl), (Nat.le_of_ble_eq_true rfl)⟩ rfl rfl (Nat.le_of_ble_eq_true rfl) ⟨(Nat.le_of_ble_eq_true rfl), (Nat.le_of_ble_eq_true rfl)⟩ dL_law_524 ?_
          refine l_step (fun H locs ls hS hL k => lv_aload_n C.1.1 C.1.2.1 dL_law_527 rfl (LH_at hL (i := 2) rfl) k) ?_
          refine l_step (fun H locs ls hS hL k => lv_aload_n C.1.1 C.1.2.1 dL_law_528 rfl (LH_at hL (i := 0) rfl) k) ?_
          refine l_step (fun H locs ls hS hL k => lv_iload_n C.1.1 C.1.2.1 dL_law_529 rfl (LH_at hL (i := 3) rfl) k) ?_
          refine l_step (fun H locs ls hS hL k => lv_iconst (v := 1) C.1.1 C.1.2.1 dL_law_530 (by decide) k) ?_
          refine l_step (fun H locs ls hS hL k => lv_iadd C.1.1 C.1.2.1 dL_law_531 k) ?_
          refine l_ld C (hin 1 (by decide)) rfl dL_law_532 ?_
          refine l_cMI C (av := [.int (xs (x3 + 1).toNatClampNeg)]) (st := [.int r]) (kX5_best l g cs am (xs (x3 + 1).toNatClampNeg) τ) e2 mwX5_best w1340 ⟨rfl, rfl⟩ ⟨(Nat.le_of_ble_eq_true rfl), (Nat.le_of_ble_eq_true rfl)⟩ rfl rfl (Nat.le_of_ble_eq_true rfl) ⟨(Nat.le_of_ble_eq_true rfl), (Nat.le_of_ble_eq_true rfl)⟩ dL_law_533 ?_
          refine l_step (pc2 := 1112) (fun H locs ls hS hL k => lv_icmp_eq (tgt := 1112) C.1.1 C.1.2.1 dL_law_536 (by decide) (fun _ => k) (fun z => absurd rfl z)) ?_
          exact T1 σ1 τ1 hR1
        by_cases q14 : w = 14
        · refine l_step (pc2 := 541) (st2 := []) (fun H locs ls hS hL k9 => by rw [q14]; exact lv_tableIn (tgt := 541) C.1.1 C.1.2.1 dL_law_33 (by decide) (by decide) rfl (by decide) k9) ?_
          obtain ⟨r, σ1, τ1, e1, e2, hR1⟩ := hst.2.2.2.2.2.2.2.2.2.2.2.2.2.2.1 (xs (x3 + 1).toNatClampNeg) (xs (x3 + 2).toNatClampNeg) σ τ hR
          refine l_step (fun H locs ls hS hL k => lv_aload_n C.1.1 C.1.2.1 dL_law_541 rfl (LH_at hL (i := 1) rfl) k) ?_
          refine l_step (fun H locs ls hS hL k => lv_aload_n C.1.1 C.1.2.1 dL_law_542 rfl (LH_at hL (i := 0) rfl) k) ?_
          refine l_step (fun H locs ls hS hL k => lv_iload_n C.1.1 C.1.2.1 dL_law_543 rfl (LH_at hL (i := 3) rfl) k) ?_
          refine l_step (fun H locs ls hS hL k => lv_iconst (v := 1) C.1.1 C.1.2.1 dL_law_544 (by decide) k) ?_
          refine l_step (fun H locs ls hS hL k => lv_iadd C.1.1 C.1.2.1 dL_law_545 k) ?_
          refine l_ld C (hin 1 (by decide)) rfl dL_law_546 ?_
          refine l_step (fun H locs ls hS hL k => lv_aload_n C.1.1 C.1.2.1 dL_law_547 rfl (LH_at hL (i := 0) rfl) k) ?_
          refine l_step (fun H locs ls hS hL k => lv_iload_n C.1.1 C.1.2.1 dL_law_548 rfl (LH_at hL (i := 3) rfl) k) ?_
          refine l_step (fun H locs ls hS hL k => lv_iconst (v := 2) C.1.1 C.1.2.1 dL_law_549 (by decide) k) ?_
          refine l_step (fun H locs ls hS hL k => lv_iadd C.1.1 C.1.2.1 dL_law_550 k) ?_
          refine l_ld C (hin 2 (by decide)) rfl dL_law_551 ?_
          refine l_cXI C (av := [.int (xs (x3 + 1).toNatClampNeg), .int (xs (x3 + 2).toNatClampNeg)]) (st := []) (kX4_save l g cs ad (xs (x3 + 1).toNatClampNeg) (xs (x3 + 2).toNatClampNeg) σ) e1 mwX4_save w798 ⟨rfl, rfl⟩ ⟨(Nat.le_of_ble_eq_true rfl), (Nat.le_of_ble_eq_true rfl)⟩ rfl rfl (Nat.le_of_ble_eq_true rfl) ⟨(Nat.le_of_ble_eq_true rfl), (Nat.le_of_ble_eq_true rfl)⟩ dL_law_552 ?_
          refine l_step (fun H locs ls hS hL k => lv_aload_n C.1.1 C.1.2.1 dL_law_555 rfl (LH_at hL (i := 2) rfl) k) ?_
          refine l_step (fun H locs ls hS hL k => lv_aload_n C.1.1 C.1.2.1 dL_law_556 rfl (LH_at hL (i := 0) rfl) k) ?_
          refine l_step (fun H locs ls hS hL k => lv_iload_n C.1.1 C.1.2.1 dL_law_557 rfl (LH_at hL (i := 3) rfl) k) ?_
          refine l_step (fun H locs ls hS hL k => lv_iconst (v := 1) C.1.1 C.1.2.1 dL_law_558 (by decide) k) ?_
          refine l_step (fun H locs ls hS hL k => lv_iadd C.1.1 C.1.2.1 dL_law_559 k) ?_
          refine l_ld C (hin 1 (by decide)) rfl dL_law_560 ?_
          refine l_step (fun H locs ls hS hL k => lv_aload_n C.1.1 C.1.2.1 dL_law_561 rfl (LH_at hL (i := 0) rfl) k) ?_
          refine l_step (fun H locs ls hS hL k => lv_iload_n C.1.1 C.1.2.1 dL_law_562 rfl (LH_at hL (i := 3) rfl) k) ?_
          refine l_step (fun H locs ls hS hL k => lv_iconst (v := 2) C.1.1 C.1.2.1 dL_law_563 (by decide) k) ?_
          refine l_step (fun H locs ls hS hL k => lv_iadd C.1.1 C.1.2.1 dL_law_564 k) ?_
          refine l_ld C (hin 2 (by decide)) rfl dL_law_565 ?_
          refine l_cMI C (av := [.int (xs (x3 + 1).toNatClampNeg), .int (xs (x3 + 2).toNatClampNeg)]) (st := [.int r]) (kX5_save l g cs am (xs (x3 + 1).toNatClampNeg) (xs (x3 + 2).toNatClampNeg) τ) e2 mwX5_save w1356 ⟨rfl, rfl⟩ ⟨(Nat.le_of_ble_eq_true rfl), (Nat.le_of_ble_eq_true rfl)⟩ rfl rfl (Nat.le_of_ble_eq_true rfl) ⟨(Nat.le_of_ble_eq_true rfl), (Nat.le_of_ble_eq_true rfl)⟩ dL_law_566 ?_
          refine l_step (pc2 := 1112) (fun H locs ls hS hL k => lv_icmp_eq (tgt := 1112) C.1.1 C.1.2.1 dL_law_569 (by decide) (fun _ => k) (fun z => absurd rfl z)) ?_
          exact T1 σ1 τ1 hR1
        by_cases q15 : w = 15
        · refine l_step (pc2 := 574) (st2 := []) (fun H locs ls hS hL k9 => by rw [q15]; exact lv_tableIn (tgt := 574) C.1.1 C.1.2.1 dL_law_33 (by decide) (by decide) rfl (by decide) k9) ?_
          obtain ⟨r, σ1, τ1, e1, e2, hR1⟩ := hst.2.2.2.2.2.2.2.2.2.2.2.2.2.2.2.1 (xs (x3 + 1).toNatClampNeg) (xs (x3 + 2).toNatClampNeg) σ τ hR
          refine l_step (fun H locs ls hS hL k => lv_aload_n C.1.1 C.1.2.1 dL_law_574 rfl (LH_at hL (i := 1) rfl) k) ?_
          refine l_step (fun H locs ls hS hL k => lv_aload_n C.1.1 C.1.2.1 dL_law_575 rfl (LH_at hL (i := 0) rfl) k) ?_
          refine l_step (fun H locs ls hS hL k => lv_iload_n C.1.1 C.1.2.1 dL_law_576 rfl (LH_at hL (i := 3) rfl) k) ?_
          refine l_step (fun H locs ls hS hL k => lv_iconst (v := 1) C.1.1 C.1.2.1 dL_law_577 (by decide) k) ?_
          refine l_step (fun H locs ls hS hL k => lv_iadd C.1.1 C.1.2.1 dL_law_578 k) ?_
          refine l_ld C (hin 1 (by decide)) rfl dL_law_579 ?_
          refine l_step (fun H locs ls hS hL k => lv_aload_n C.1.1 C.1.2.1 dL_law_580 rfl (LH_at hL (i := 0) rfl) k) ?_
          refine l_step (fun H locs ls hS hL k => lv_iload_n C.1.1 C.1.2.1 dL_law_581 rfl (LH_at hL (i := 3) rfl) k) ?_
          refine l_step (fun H locs ls hS hL k => lv_iconst (v := 2) C.1.1 C.1.2.1 dL_law_582 (by decide) k) ?_
          refine l_step (fun H locs ls hS hL k => lv_iadd C.1.1 C.1.2.1 dL_law_583 k) ?_
          refine l_ld C (hin 2 (by decide)) rfl dL_law_584 ?_
          refine l_cXI C (av := [.int (xs (x3 + 1).toNatClampNeg), .int (xs (x3 + 2).toNatClampNeg)]) (st := []) (kX4_lasts l g cs ad (xs (x3 + 1).toNatClampNeg) (xs (x3 + 2).toNatClampNeg) σ) e1 mwX4_lasts w810 ⟨rfl, rfl⟩ ⟨(Nat.le_of_ble_eq_true rfl), (Nat.le_of_ble_eq_true rfl)⟩ rfl rfl (Nat.le_of_ble_eq_true rfl) ⟨(Nat.le_of_ble_eq_true rfl), (Nat.le_of_ble_eq_true rfl)⟩ dL_law_585 ?_
          refine l_step (fun H locs ls hS hL k => lv_aload_n C.1.1 C.1.2.1 dL_law_588 rfl (LH_at hL (i := 2) rfl) k) ?_
          refine l_step (fun H locs ls hS hL k => lv_aload_n C.1.1 C.1.2.1 dL_law_589 rfl (LH_at hL (i := 0) rfl) k) ?_
          refine l_step (fun H locs ls hS hL k => lv_iload_n C.1.1 C.1.2.1 dL_law_590 rfl (LH_at hL (i := 3) rfl) k) ?_
          refine l_step (fun H locs ls hS hL k => lv_iconst (v := 1) C.1.1 C.1.2.1 dL_law_591 (by decide) k) ?_
          refine l_step (fun H locs ls hS hL k => lv_iadd C.1.1 C.1.2.1 dL_law_592 k) ?_
          refine l_ld C (hin 1 (by decide)) rfl dL_law_593 ?_
          refine l_step (fun H locs ls hS hL k => lv_aload_n C.1.1 C.1.2.1 dL_law_594 rfl (LH_at hL (i := 0) rfl) k) ?_
          refine l_step (fun H locs ls hS hL k => lv_iload_n C.1.1 C.1.2.1 dL_law_595 rfl (LH_at hL (i := 3) rfl) k) ?_
          refine l_step (fun H locs ls hS hL k => lv_iconst (v := 2) C.1.1 C.1.2.1 dL_law_596 (by decide) k) ?_
          refine l_step (fun H locs ls hS hL k => lv_iadd C.1.1 C.1.2.1 dL_law_597 k) ?_
          refine l_ld C (hin 2 (by decide)) rfl dL_law_598 ?_
          refine l_cMI C (av := [.int (xs (x3 + 1).toNatClampNeg), .int (xs (x3 + 2).toNatClampNeg)]) (st := [.int r]) (kX5_lasts l g cs am (xs (x3 + 1).toNatClampNeg) (xs (x3 + 2).toNatClampNeg) τ) e2 mwX5_lasts w1364 ⟨rfl, rfl⟩ ⟨(Nat.le_of_ble_eq_true rfl), (Nat.le_of_ble_eq_true rfl)⟩ rfl rfl (Nat.le_of_ble_eq_true rfl) ⟨(Nat.le_of_ble_eq_true rfl), (Nat.le_of_ble_eq_true rfl)⟩ dL_law_599 ?_
          refine l_step (pc2 := 1112) (fun H locs ls hS hL k => lv_icmp_eq (tgt := 1112) C.1.1 C.1.2.1 dL_law_602 (by decide) (fun _ => k) (fun z => absurd rfl z)) ?_
          exact T1 σ1 τ1 hR1
        by_cases q16 : w = 16
        · refine l_step (pc2 := 607) (st2 := []) (fun H locs ls hS hL k9 => by rw [q16]; exact lv_tableIn (tgt := 607) C.1.1 C.1.2.1 dL_law_33 (by decide) (by decide) rfl (by decide) k9) ?_
          obtain ⟨r, σ1, τ1, e1, e2, hR1⟩ := hst.2.2.2.2.2.2.2.2.2.2.2.2.2.2.2.2.1 (xs (x3 + 1).toNatClampNeg) σ τ hR
          refine l_step (fun H locs ls hS hL k => lv_aload_n C.1.1 C.1.2.1 dL_law_607 rfl (LH_at hL (i := 1) rfl) k) ?_
          refine l_step (fun H locs ls hS hL k => lv_aload_n C.1.1 C.1.2.1 dL_law_608 rfl (LH_at hL (i := 0) rfl) k) ?_
          refine l_step (fun H locs ls hS hL k => lv_iload_n C.1.1 C.1.2.1 dL_law_609 rfl (LH_at hL (i := 3) rfl) k) ?_
          refine l_step (fun H locs ls hS hL k => lv_iconst (v := 1) C.1.1 C.1.2.1 dL_law_610 (by decide) k) ?_
          refine l_step (fun H locs ls hS hL k => lv_iadd C.1.1 C.1.2.1 dL_law_611 k) ?_
          refine l_ld C (hin 1 (by decide)) rfl dL_law_612 ?_
          refine l_cXL C (av := [.int (xs (x3 + 1).toNatClampNeg)]) (st := []) (kX4_share l g cs ad (xs (x3 + 1).toNatClampNeg) σ) e1 mwX4_share w814 ⟨rfl, rfl⟩ ⟨(Nat.le_of_ble_eq_true rfl), (Nat.le_of_ble_eq_true rfl)⟩ rfl rfl (Nat.le_of_ble_eq_true rfl) ⟨(Nat.le_of_ble_eq_true rfl), (Nat.le_of_ble_eq_true rfl)⟩ dL_law_613 ?_
          refine l_step (fun H locs ls hS hL k => lv_aload_n C.1.1 C.1.2.1 dL_law_616 rfl (LH_at hL (i := 2) rfl) k) ?_
          refine l_step (fun H locs ls hS hL k => lv_aload_n C.1.1 C.1.2.1 dL_law_617 rfl (LH_at hL (i := 0) rfl) k) ?_
          refine l_step (fun H locs ls hS hL k => lv_iload_n C.1.1 C.1.2.1 dL_law_618 rfl (LH_at hL (i := 3) rfl) k) ?_
          refine l_step (fun H locs ls hS hL k => lv_iconst (v := 1) C.1.1 C.1.2.1 dL_law_619 (by decide) k) ?_
          refine l_step (fun H locs ls hS hL k => lv_iadd C.1.1 C.1.2.1 dL_law_620 k) ?_
          refine l_ld C (hin 1 (by decide)) rfl dL_law_621 ?_
          refine l_cML C (av := [.int (xs (x3 + 1).toNatClampNeg)]) (st := [.long r]) (kX5_share l g cs am (xs (x3 + 1).toNatClampNeg) τ) e2 mwX5_share w1369 ⟨rfl, rfl⟩ ⟨(Nat.le_of_ble_eq_true rfl), (Nat.le_of_ble_eq_true rfl)⟩ rfl rfl (Nat.le_of_ble_eq_true rfl) ⟨(Nat.le_of_ble_eq_true rfl), (Nat.le_of_ble_eq_true rfl)⟩ dL_law_622 ?_
          refine l_step (fun H locs ls hS hL k => W.lcmp C.1.1 C.1.2.1 dL_law_625 k) ?_
          refine l_step (pc2 := 1112) (fun H locs ls hS hL k => lv_if_eq (tgt := 1112) C.1.1 C.1.2.1 dL_law_626 (by decide) (fun _ => k) (fun z => absurd (lgc_self _) z)) ?_
          exact T1 σ1 τ1 hR1
        by_cases q17 : w = 17
        · refine l_step (pc2 := 631) (st2 := []) (fun H locs ls hS hL k9 => by rw [q17]; exact lv_tableIn (tgt := 631) C.1.1 C.1.2.1 dL_law_33 (by decide) (by decide) rfl (by decide) k9) ?_
          obtain ⟨r, σ1, τ1, e1, e2, hR1⟩ := hst.2.2.2.2.2.2.2.2.2.2.2.2.2.2.2.2.2.1 (xs (x3 + 1).toNatClampNeg) (xs (x3 + 2).toNatClampNeg) (xs (x3 + 3).toNatClampNeg) σ τ hR
          refine l_step (fun H locs ls hS hL k => lv_aload_n C.1.1 C.1.2.1 dL_law_631 rfl (LH_at hL (i := 1) rfl) k) ?_
          refine l_step (fun H locs ls hS hL k => lv_aload_n C.1.1 C.1.2.1 dL_law_632 rfl (LH_at hL (i := 0) rfl) k) ?_
          refine l_step (fun H locs ls hS hL k => lv_iload_n C.1.1 C.1.2.1 dL_law_633 rfl (LH_at hL (i := 3) rfl) k) ?_
          refine l_step (fun H locs ls hS hL k => lv_iconst (v := 1) C.1.1 C.1.2.1 dL_law_634 (by decide) k) ?_
          refine l_step (fun H locs ls hS hL k => lv_iadd C.1.1 C.1.2.1 dL_law_635 k) ?_
          refine l_ld C (hin 1 (by decide)) rfl dL_law_636 ?_
          refine l_step (fun H locs ls hS hL k => lv_aload_n C.1.1 C.1.2.1 dL_law_637 rfl (LH_at hL (i := 0) rfl) k) ?_
          refine l_step (fun H locs ls hS hL k => lv_iload_n C.1.1 C.1.2.1 dL_law_638 rfl (LH_at hL (i := 3) rfl) k) ?_
          refine l_step (fun H locs ls hS hL k => lv_iconst (v := 2) C.1.1 C.1.2.1 dL_law_639 (by decide) k) ?_
          refine l_step (fun H locs ls hS hL k => lv_iadd C.1.1 C.1.2.1 dL_law_640 k) ?_
          refine l_ld C (hin 2 (by decide)) rfl dL_law_641 ?_
          refine l_step (fun H locs ls hS hL k => lv_aload_n C.1.1 C.1.2.1 dL_law_642 rfl (LH_at hL (i := 0) rfl) k) ?_
          refine l_step (fun H locs ls hS hL k => lv_iload_n C.1.1 C.1.2.1 dL_law_643 rfl (LH_at hL (i := 3) rfl) k) ?_
          refine l_step (fun H locs ls hS hL k => lv_iconst (v := 3) C.1.1 C.1.2.1 dL_law_644 (by decide) k) ?_
          refine l_step (fun H locs ls hS hL k => lv_iadd C.1.1 C.1.2.1 dL_law_645 k) ?_
          refine l_ld C (hin 3 (by decide)) rfl dL_law_646 ?_
          refine l_cXI C (av := [.int (xs (x3 + 1).toNatClampNeg), .int (xs (x3 + 2).toNatClampNeg), .int (xs (x3 + 3).toNatClampNeg)]) (st := []) (kX4_tells l g cs ad (xs (x3 + 1).toNatClampNeg) (xs (x3 + 2).toNatClampNeg) (xs (x3 + 3).toNatClampNeg) σ) e1 mwX4_tells w821 ⟨rfl, rfl⟩ ⟨(Nat.le_of_ble_eq_true rfl), (Nat.le_of_ble_eq_true rfl)⟩ rfl rfl (Nat.le_of_ble_eq_true rfl) ⟨(Nat.le_of_ble_eq_true rfl), (Nat.le_of_ble_eq_true rfl)⟩ dL_law_647 ?_
          refine l_step (fun H locs ls hS hL k => lv_aload_n C.1.1 C.1.2.1 dL_law_650 rfl (LH_at hL (i := 2) rfl) k) ?_
          refine l_step (fun H locs ls hS hL k => lv_aload_n C.1.1 C.1.2.1 dL_law_651 rfl (LH_at hL (i := 0) rfl) k) ?_
          refine l_step (fun H locs ls hS hL k => lv_iload_n C.1.1 C.1.2.1 dL_law_652 rfl (LH_at hL (i := 3) rfl) k) ?_
          refine l_step (fun H locs ls hS hL k => lv_iconst (v := 1) C.1.1 C.1.2.1 dL_law_653 (by decide) k) ?_
          refine l_step (fun H locs ls hS hL k => lv_iadd C.1.1 C.1.2.1 dL_law_654 k) ?_
          refine l_ld C (hin 1 (by decide)) rfl dL_law_655 ?_
          refine l_step (fun H locs ls hS hL k => lv_aload_n C.1.1 C.1.2.1 dL_law_656 rfl (LH_at hL (i := 0) rfl) k) ?_
          refine l_step (fun H locs ls hS hL k => lv_iload_n C.1.1 C.1.2.1 dL_law_657 rfl (LH_at hL (i := 3) rfl) k) ?_
          refine l_step (fun H locs ls hS hL k => lv_iconst (v := 2) C.1.1 C.1.2.1 dL_law_658 (by decide) k) ?_
          refine l_step (fun H locs ls hS hL k => lv_iadd C.1.1 C.1.2.1 dL_law_659 k) ?_
          refine l_ld C (hin 2 (by decide)) rfl dL_law_660 ?_
          refine l_step (fun H locs ls hS hL k => lv_aload_n C.1.1 C.1.2.1 dL_law_661 rfl (LH_at hL (i := 0) rfl) k) ?_
          refine l_step (fun H locs ls hS hL k => lv_iload_n C.1.1 C.1.2.1 dL_law_662 rfl (LH_at hL (i := 3) rfl) k) ?_
          refine l_step (fun H locs ls hS hL k => lv_iconst (v := 3) C.1.1 C.1.2.1 dL_law_663 (by decide) k) ?_
          refine l_step (fun H locs ls hS hL k => lv_iadd C.1.1 C.1.2.1 dL_law_664 k) ?_
          refine l_ld C (hin 3 (by decide)) rfl dL_law_665 ?_
          refine l_cMI C (av := [.int (xs (x3 + 1).toNatClampNeg), .int (xs (x3 + 2).toNatClampNeg), .int (xs (x3 + 3).toNatClampNeg)]) (st := [.int r]) (kX5_tells l g cs am (xs (x3 + 1).toNatClampNeg) (xs (x3 + 2).toNatClampNeg) (xs (x3 + 3).toNatClampNeg) τ) e2 mwX5_tells w1376 ⟨rfl, rfl⟩ ⟨(Nat.le_of_ble_eq_true rfl), (Nat.le_of_ble_eq_true rfl)⟩ rfl rfl (Nat.le_of_ble_eq_true rfl) ⟨(Nat.le_of_ble_eq_true rfl), (Nat.le_of_ble_eq_true rfl)⟩ dL_law_666 ?_
          refine l_step (pc2 := 1112) (fun H locs ls hS hL k => lv_icmp_eq (tgt := 1112) C.1.1 C.1.2.1 dL_law_669 (by decide) (fun _ => k) (fun z => absurd rfl z)) ?_
          exact T1 σ1 τ1 hR1
        by_cases q18 : w = 18
        · refine l_step (pc2 := 674) (st2 := []) (fun H locs ls hS hL k9 => by rw [q18]; exact lv_tableIn (tgt := 674) C.1.1 C.1.2.1 dL_law_33 (by decide) (by decide) rfl (by decide) k9) ?_
          obtain ⟨r, σ1, τ1, e1, e2, hR1⟩ := hst.2.2.2.2.2.2.2.2.2.2.2.2.2.2.2.2.2.2.1 (xs (x3 + 1).toNatClampNeg) (xs (x3 + 2).toNatClampNeg) σ τ hR
          refine l_step (fun H locs ls hS hL k => lv_aload_n C.1.1 C.1.2.1 dL_law_674 rfl (LH_at hL (i := 1) rfl) k) ?_
          refine l_step (fun H locs ls hS hL k => lv_aload_n C.1.1 C.1.2.1 dL_law_675 rfl (LH_at hL (i := 0) rfl) k) ?_
          refine l_step (fun H locs ls hS hL k => lv_iload_n C.1.1 C.1.2.1 dL_law_676 rfl (LH_at hL (i := 3) rfl) k) ?_
          refine l_step (fun H locs ls hS hL k => lv_iconst (v := 1) C.1.1 C.1.2.1 dL_law_677 (by decide) k) ?_
          refine l_step (fun H locs ls hS hL k => lv_iadd C.1.1 C.1.2.1 dL_law_678 k) ?_
          refine l_ld C (hin 1 (by decide)) rfl dL_law_679 ?_
          refine l_step (fun H locs ls hS hL k => lv_aload_n C.1.1 C.1.2.1 dL_law_680 rfl (LH_at hL (i := 0) rfl) k) ?_
          refine l_step (fun H locs ls hS hL k => lv_iload_n C.1.1 C.1.2.1 dL_law_681 rfl (LH_at hL (i := 3) rfl) k) ?_
          refine l_step (fun H locs ls hS hL k => lv_iconst (v := 2) C.1.1 C.1.2.1 dL_law_682 (by decide) k) ?_
          refine l_step (fun H locs ls hS hL k => lv_iadd C.1.1 C.1.2.1 dL_law_683 k) ?_
          refine l_ld C (hin 2 (by decide)) rfl dL_law_684 ?_
          refine l_cXL C (av := [.int (xs (x3 + 1).toNatClampNeg), .int (xs (x3 + 2).toNatClampNeg)]) (st := []) (kX4_places l g cs ad (xs (x3 + 1).toNatClampNeg) (xs (x3 + 2).toNatClampNeg) σ) e1 mwX4_places w860 ⟨rfl, rfl⟩ ⟨(Nat.le_of_ble_eq_true rfl), (Nat.le_of_ble_eq_true rfl)⟩ rfl rfl (Nat.le_of_ble_eq_true rfl) ⟨(Nat.le_of_ble_eq_true rfl), (Nat.le_of_ble_eq_true rfl)⟩ dL_law_685 ?_
          refine l_step (fun H locs ls hS hL k => lv_aload_n C.1.1 C.1.2.1 dL_law_688 rfl (LH_at hL (i := 2) rfl) k) ?_
          refine l_step (fun H locs ls hS hL k => lv_aload_n C.1.1 C.1.2.1 dL_law_689 rfl (LH_at hL (i := 0) rfl) k) ?_
          refine l_step (fun H locs ls hS hL k => lv_iload_n C.1.1 C.1.2.1 dL_law_690 rfl (LH_at hL (i := 3) rfl) k) ?_
          refine l_step (fun H locs ls hS hL k => lv_iconst (v := 1) C.1.1 C.1.2.1 dL_law_691 (by decide) k) ?_
          refine l_step (fun H locs ls hS hL k => lv_iadd C.1.1 C.1.2.1 dL_law_692 k) ?_
          refine l_ld C (hin 1 (by decide)) rfl dL_law_693 ?_
          refine l_step (fun H locs ls hS hL k => lv_aload_n C.1.1 C.1.2.1 dL_law_694 rfl (LH_at hL (i := 0) rfl) k) ?_
          refine l_step (fun H locs ls hS hL k => lv_iload_n C.1.1 C.1.2.1 dL_law_695 rfl (LH_at hL (i := 3) rfl) k) ?_
          refine l_step (fun H locs ls hS hL k => lv_iconst (v := 2) C.1.1 C.1.2.1 dL_law_696 (by decide) k) ?_
          refine l_step (fun H locs ls hS hL k => lv_iadd C.1.1 C.1.2.1 dL_law_697 k) ?_
          refine l_ld C (hin 2 (by decide)) rfl dL_law_698 ?_
          refine l_cML C (av := [.int (xs (x3 + 1).toNatClampNeg), .int (xs (x3 + 2).toNatClampNeg)]) (st := [.long r]) (kX5_places l g cs am (xs (x3 + 1).toNatClampNeg) (xs (x3 + 2).toNatClampNeg) τ) e2 mwX5_places w1389 ⟨rfl, rfl⟩ ⟨(Nat.le_of_ble_eq_true rfl), (Nat.le_of_ble_eq_true rfl)⟩ rfl rfl (Nat.le_of_ble_eq_true rfl) ⟨(Nat.le_of_ble_eq_true rfl), (Nat.le_of_ble_eq_true rfl)⟩ dL_law_699 ?_
          refine l_step (fun H locs ls hS hL k => W.lcmp C.1.1 C.1.2.1 dL_law_702 k) ?_
          refine l_step (pc2 := 1112) (fun H locs ls hS hL k => lv_if_eq (tgt := 1112) C.1.1 C.1.2.1 dL_law_703 (by decide) (fun _ => k) (fun z => absurd (lgc_self _) z)) ?_
          exact T1 σ1 τ1 hR1
        by_cases q19 : w = 19
        · refine l_step (pc2 := 708) (st2 := []) (fun H locs ls hS hL k9 => by rw [q19]; exact lv_tableIn (tgt := 708) C.1.1 C.1.2.1 dL_law_33 (by decide) (by decide) rfl (by decide) k9) ?_
          obtain ⟨r, σ1, τ1, e1, e2, hR1⟩ := hst.2.2.2.2.2.2.2.2.2.2.2.2.2.2.2.2.2.2.2.1 (xs (x3 + 1).toNatClampNeg) (xs (x3 + 2).toNatClampNeg) σ τ hR
          refine l_step (fun H locs ls hS hL k => lv_aload_n C.1.1 C.1.2.1 dL_law_708 rfl (LH_at hL (i := 1) rfl) k) ?_
          refine l_step (fun H locs ls hS hL k => lv_aload_n C.1.1 C.1.2.1 dL_law_709 rfl (LH_at hL (i := 0) rfl) k) ?_
          refine l_step (fun H locs ls hS hL k => lv_iload_n C.1.1 C.1.2.1 dL_law_710 rfl (LH_at hL (i := 3) rfl) k) ?_
          refine l_step (fun H locs ls hS hL k => lv_iconst (v := 1) C.1.1 C.1.2.1 dL_law_711 (by decide) k) ?_
          refine l_step (fun H locs ls hS hL k => lv_iadd C.1.1 C.1.2.1 dL_law_712 k) ?_
          refine l_ld C (hin 1 (by decide)) rfl dL_law_713 ?_
          refine l_step (fun H locs ls hS hL k => lv_aload_n C.1.1 C.1.2.1 dL_law_714 rfl (LH_at hL (i := 0) rfl) k) ?_
          refine l_step (fun H locs ls hS hL k => lv_iload_n C.1.1 C.1.2.1 dL_law_715 rfl (LH_at hL (i := 3) rfl) k) ?_
          refine l_step (fun H locs ls hS hL k => lv_iconst (v := 2) C.1.1 C.1.2.1 dL_law_716 (by decide) k) ?_
          refine l_step (fun H locs ls hS hL k => lv_iadd C.1.1 C.1.2.1 dL_law_717 k) ?_
          refine l_ld C (hin 2 (by decide)) rfl dL_law_718 ?_
          refine l_cXI C (av := [.int (xs (x3 + 1).toNatClampNeg), .int (xs (x3 + 2).toNatClampNeg)]) (st := []) (kX4_film l g cs ad (xs (x3 + 1).toNatClampNeg) (xs (x3 + 2).toNatClampNeg) σ) e1 mwX4_film w864 ⟨rfl, rfl⟩ ⟨(Nat.le_of_ble_eq_true rfl), (Nat.le_of_ble_eq_true rfl)⟩ rfl rfl (Nat.le_of_ble_eq_true rfl) ⟨(Nat.le_of_ble_eq_true rfl), (Nat.le_of_ble_eq_true rfl)⟩ dL_law_719 ?_
          refine l_step (fun H locs ls hS hL k => lv_aload_n C.1.1 C.1.2.1 dL_law_722 rfl (LH_at hL (i := 2) rfl) k) ?_
          refine l_step (fun H locs ls hS hL k => lv_aload_n C.1.1 C.1.2.1 dL_law_723 rfl (LH_at hL (i := 0) rfl) k) ?_
          refine l_step (fun H locs ls hS hL k => lv_iload_n C.1.1 C.1.2.1 dL_law_724 rfl (LH_at hL (i := 3) rfl) k) ?_
          refine l_step (fun H locs ls hS hL k => lv_iconst (v := 1) C.1.1 C.1.2.1 dL_law_725 (by decide) k) ?_
          refine l_step (fun H locs ls hS hL k => lv_iadd C.1.1 C.1.2.1 dL_law_726 k) ?_
          refine l_ld C (hin 1 (by decide)) rfl dL_law_727 ?_
          refine l_step (fun H locs ls hS hL k => lv_aload_n C.1.1 C.1.2.1 dL_law_728 rfl (LH_at hL (i := 0) rfl) k) ?_
          refine l_step (fun H locs ls hS hL k => lv_iload_n C.1.1 C.1.2.1 dL_law_729 rfl (LH_at hL (i := 3) rfl) k) ?_
          refine l_step (fun H locs ls hS hL k => lv_iconst (v := 2) C.1.1 C.1.2.1 dL_law_730 (by decide) k) ?_
          refine l_step (fun H locs ls hS hL k => lv_iadd C.1.1 C.1.2.1 dL_law_731 k) ?_
          refine l_ld C (hin 2 (by decide)) rfl dL_law_732 ?_
          refine l_cMI C (av := [.int (xs (x3 + 1).toNatClampNeg), .int (xs (x3 + 2).toNatClampNeg)]) (st := [.int r]) (kX5_film l g cs am (xs (x3 + 1).toNatClampNeg) (xs (x3 + 2).toNatClampNeg) τ) e2 mwX5_film w1393 ⟨rfl, rfl⟩ ⟨(Nat.le_of_ble_eq_true rfl), (Nat.le_of_ble_eq_true rfl)⟩ rfl rfl (Nat.le_of_ble_eq_true rfl) ⟨(Nat.le_of_ble_eq_true rfl), (Nat.le_of_ble_eq_true rfl)⟩ dL_law_733 ?_
          refine l_step (pc2 := 1112) (fun H locs ls hS hL k => lv_icmp_eq (tgt := 1112) C.1.1 C.1.2.1 dL_law_736 (by decide) (fun _ => k) (fun z => absurd rfl z)) ?_
          exact T1 σ1 τ1 hR1
        by_cases q20 : w = 20
        · refine l_step (pc2 := 741) (st2 := []) (fun H locs ls hS hL k9 => by rw [q20]; exact lv_tableIn (tgt := 741) C.1.1 C.1.2.1 dL_law_33 (by decide) (by decide) rfl (by decide) k9) ?_
          obtain ⟨r, σ1, τ1, e1, e2, hR1⟩ := hst.2.2.2.2.2.2.2.2.2.2.2.2.2.2.2.2.2.2.2.2.1 (xs (x3 + 1).toNatClampNeg) (xs (x3 + 2).toNatClampNeg) σ τ hR
          refine l_step (fun H locs ls hS hL k => lv_aload_n C.1.1 C.1.2.1 dL_law_741 rfl (LH_at hL (i := 1) rfl) k) ?_
          refine l_step (fun H locs ls hS hL k => lv_aload_n C.1.1 C.1.2.1 dL_law_742 rfl (LH_at hL (i := 0) rfl) k) ?_
          refine l_step (fun H locs ls hS hL k => lv_iload_n C.1.1 C.1.2.1 dL_law_743 rfl (LH_at hL (i := 3) rfl) k) ?_
          refine l_step (fun H locs ls hS hL k => lv_iconst (v := 1) C.1.1 C.1.2.1 dL_law_744 (by decide) k) ?_
          refine l_step (fun H locs ls hS hL k => lv_iadd C.1.1 C.1.2.1 dL_law_745 k) ?_
          refine l_ld C (hin 1 (by decide)) rfl dL_law_746 ?_
          refine l_step (fun H locs ls hS hL k => lv_aload_n C.1.1 C.1.2.1 dL_law_747 rfl (LH_at hL (i := 0) rfl) k) ?_
          refine l_step (fun H locs ls hS hL k => lv_iload_n C.1.1 C.1.2.1 dL_law_748 rfl (LH_at hL (i := 3) rfl) k) ?_
          refine l_step (fun H locs ls hS hL k => lv_iconst (v := 2) C.1.1 C.1.2.1 dL_law_749 (by decide) k) ?_
          refine l_step (fun H locs ls hS hL k => lv_iadd C.1.1 C.1.2.1 dL_law_750 k) ?_
          refine l_ld C (hin 2 (by decide)) rfl dL_law_751 ?_
          refine l_cXI C (av := [.int (xs (x3 + 1).toNatClampNeg), .int (xs (x3 + 2).toNatClampNeg)]) (st := []) (kX4_drawn l g cs ad (xs (x3 + 1).toNatClampNeg) (xs (x3 + 2).toNatClampNeg) σ) e1 mwX4_drawn w878 ⟨rfl, rfl⟩ ⟨(Nat.le_of_ble_eq_true rfl), (Nat.le_of_ble_eq_true rfl)⟩ rfl rfl (Nat.le_of_ble_eq_true rfl) ⟨(Nat.le_of_ble_eq_true rfl), (Nat.le_of_ble_eq_true rfl)⟩ dL_law_752 ?_
          refine l_step (fun H locs ls hS hL k => lv_aload_n C.1.1 C.1.2.1 dL_law_755 rfl (LH_at hL (i := 2) rfl) k) ?_
          refine l_step (fun H locs ls hS hL k => lv_aload_n C.1.1 C.1.2.1 dL_law_756 rfl (LH_at hL (i := 0) rfl) k) ?_
          refine l_step (fun H locs ls hS hL k => lv_iload_n C.1.1 C.1.2.1 dL_law_757 rfl (LH_at hL (i := 3) rfl) k) ?_
          refine l_step (fun H locs ls hS hL k => lv_iconst (v := 1) C.1.1 C.1.2.1 dL_law_758 (by decide) k) ?_
          refine l_step (fun H locs ls hS hL k => lv_iadd C.1.1 C.1.2.1 dL_law_759 k) ?_
          refine l_ld C (hin 1 (by decide)) rfl dL_law_760 ?_
          refine l_step (fun H locs ls hS hL k => lv_aload_n C.1.1 C.1.2.1 dL_law_761 rfl (LH_at hL (i := 0) rfl) k) ?_
          refine l_step (fun H locs ls hS hL k => lv_iload_n C.1.1 C.1.2.1 dL_law_762 rfl (LH_at hL (i := 3) rfl) k) ?_
          refine l_step (fun H locs ls hS hL k => lv_iconst (v := 2) C.1.1 C.1.2.1 dL_law_763 (by decide) k) ?_
          refine l_step (fun H locs ls hS hL k => lv_iadd C.1.1 C.1.2.1 dL_law_764 k) ?_
          refine l_ld C (hin 2 (by decide)) rfl dL_law_765 ?_
          refine l_cMI C (av := [.int (xs (x3 + 1).toNatClampNeg), .int (xs (x3 + 2).toNatClampNeg)]) (st := [.int r]) (kX5_drawn l g cs am (xs (x3 + 1).toNatClampNeg) (xs (x3 + 2).toNatClampNeg) τ) e2 mwX5_drawn w1402 ⟨rfl, rfl⟩ ⟨(Nat.le_of_ble_eq_true rfl), (Nat.le_of_ble_eq_true rfl)⟩ rfl rfl (Nat.le_of_ble_eq_true rfl) ⟨(Nat.le_of_ble_eq_true rfl), (Nat.le_of_ble_eq_true rfl)⟩ dL_law_766 ?_
          refine l_step (pc2 := 1112) (fun H locs ls hS hL k => lv_icmp_eq (tgt := 1112) C.1.1 C.1.2.1 dL_law_769 (by decide) (fun _ => k) (fun z => absurd rfl z)) ?_
          exact T1 σ1 τ1 hR1
        by_cases q21 : w = 21
        · refine l_step (pc2 := 774) (st2 := []) (fun H locs ls hS hL k9 => by rw [q21]; exact lv_tableIn (tgt := 774) C.1.1 C.1.2.1 dL_law_33 (by decide) (by decide) rfl (by decide) k9) ?_
          obtain ⟨r, σ1, τ1, e1, e2, hR1⟩ := hst.2.2.2.2.2.2.2.2.2.2.2.2.2.2.2.2.2.2.2.2.2.1 (xs (x3 + 1).toNatClampNeg) (xs (x3 + 2).toNatClampNeg) (xs (x3 + 3).toNatClampNeg) (xs (x3 + 4).toNatClampNeg) σ τ hR
          refine l_step (fun H locs ls hS hL k => lv_aload_n C.1.1 C.1.2.1 dL_law_774 rfl (LH_at hL (i := 1) rfl) k) ?_
          refine l_step (fun H locs ls hS hL k => lv_aload_n C.1.1 C.1.2.1 dL_law_775 rfl (LH_at hL (i := 0) rfl) k) ?_
          refine l_step (fun H locs ls hS hL k => lv_iload_n C.1.1 C.1.2.1 dL_law_776 rfl (LH_at hL (i := 3) rfl) k) ?_
          refine l_step (fun H locs ls hS hL k => lv_iconst (v := 1) C.1.1 C.1.2.1 dL_law_777 (by decide) k) ?_
          refine l_step (fun H locs ls hS hL k => lv_iadd C.1.1 C.1.2.1 dL_law_778 k) ?_
          refine l_ld C (hin 1 (by decide)) rfl dL_law_779 ?_
          refine l_step (fun H locs ls hS hL k => lv_aload_n C.1.1 C.1.2.1 dL_law_780 rfl (LH_at hL (i := 0) rfl) k) ?_
          refine l_step (fun H locs ls hS hL k => lv_iload_n C.1.1 C.1.2.1 dL_law_781 rfl (LH_at hL (i := 3) rfl) k) ?_
          refine l_step (fun H locs ls hS hL k => lv_iconst (v := 2) C.1.1 C.1.2.1 dL_law_782 (by decide) k) ?_
          refine l_step (fun H locs ls hS hL k => lv_iadd C.1.1 C.1.2.1 dL_law_783 k) ?_
          refine l_ld C (hin 2 (by decide)) rfl dL_law_784 ?_
          refine l_step (fun H locs ls hS hL k => lv_aload_n C.1.1 C.1.2.1 dL_law_785 rfl (LH_at hL (i := 0) rfl) k) ?_
          refine l_step (fun H locs ls hS hL k => lv_iload_n C.1.1 C.1.2.1 dL_law_786 rfl (LH_at hL (i := 3) rfl) k) ?_
          refine l_step (fun H locs ls hS hL k => lv_iconst (v := 3) C.1.1 C.1.2.1 dL_law_787 (by decide) k) ?_
          refine l_step (fun H locs ls hS hL k => lv_iadd C.1.1 C.1.2.1 dL_law_788 k) ?_
          refine l_ld C (hin 3 (by decide)) rfl dL_law_789 ?_
          refine l_step (fun H locs ls hS hL k => lv_aload_n C.1.1 C.1.2.1 dL_law_790 rfl (LH_at hL (i := 0) rfl) k) ?_
          refine l_step (fun H locs ls hS hL k => lv_iload_n C.1.1 C.1.2.1 dL_law_791 rfl (LH_at hL (i := 3) rfl) k) ?_
          refine l_step (fun H locs ls hS hL k => lv_iconst (v := 4) C.1.1 C.1.2.1 dL_law_792 (by decide) k) ?_
          refine l_step (fun H locs ls hS hL k => lv_iadd C.1.1 C.1.2.1 dL_law_793 k) ?_
          refine l_ld C (hin 4 (by decide)) rfl dL_law_794 ?_
          refine l_cXL C (av := [.int (xs (x3 + 1).toNatClampNeg), .int (xs (x3 + 2).toNatClampNeg), .int (xs (x3 + 3).toNatClampNeg), .int (xs (x3 + 4).toNatClampNeg)]) (st := []) (kX4_chance l g cs ad (xs (x3 + 1).toNatClampNeg) (xs (x3 + 2).toNatClampNeg) (xs (x3 + 3).toNatClampNeg) (xs (x3 + 4).toNatClampNeg) σ) e1 mwX4_chance w887 ⟨rfl, rfl⟩ ⟨(Nat.le_of_ble_eq_true rfl), (Nat.le_of_ble_eq_true rfl)⟩ rfl rfl (Nat.le_of_ble_eq_true rfl) ⟨(Nat.le_of_ble_eq_true rfl), (Nat.le_of_ble_eq_true rfl)⟩ dL_law_795 ?_
          refine l_step (fun H locs ls hS hL k => lv_aload_n C.1.1 C.1.2.1 dL_law_798 rfl (LH_at hL (i := 2) rfl) k) ?_
          refine l_step (fun H locs ls hS hL k => lv_aload_n C.1.1 C.1.2.1 dL_law_799 rfl (LH_at hL (i := 0) rfl) k) ?_
          refine l_step (fun H locs ls hS hL k => lv_iload_n C.1.1 C.1.2.1 dL_law_800 rfl (LH_at hL (i := 3) rfl) k) ?_
          refine l_step (fun H locs ls hS hL k => lv_iconst (v := 1) C.1.1 C.1.2.1 dL_law_801 (by decide) k) ?_
          refine l_step (fun H locs ls hS hL k => lv_iadd C.1.1 C.1.2.1 dL_law_802 k) ?_
          refine l_ld C (hin 1 (by decide)) rfl dL_law_803 ?_
          refine l_step (fun H locs ls hS hL k => lv_aload_n C.1.1 C.1.2.1 dL_law_804 rfl (LH_at hL (i := 0) rfl) k) ?_
          refine l_step (fun H locs ls hS hL k => lv_iload_n C.1.1 C.1.2.1 dL_law_805 rfl (LH_at hL (i := 3) rfl) k) ?_
          refine l_step (fun H locs ls hS hL k => lv_iconst (v := 2) C.1.1 C.1.2.1 dL_law_806 (by decide) k) ?_
          refine l_step (fun H locs ls hS hL k => lv_iadd C.1.1 C.1.2.1 dL_law_807 k) ?_
          refine l_ld C (hin 2 (by decide)) rfl dL_law_808 ?_
          refine l_step (fun H locs ls hS hL k => lv_aload_n C.1.1 C.1.2.1 dL_law_809 rfl (LH_at hL (i := 0) rfl) k) ?_
          refine l_step (fun H locs ls hS hL k => lv_iload_n C.1.1 C.1.2.1 dL_law_810 rfl (LH_at hL (i := 3) rfl) k) ?_
          refine l_step (fun H locs ls hS hL k => lv_iconst (v := 3) C.1.1 C.1.2.1 dL_law_811 (by decide) k) ?_
          refine l_step (fun H locs ls hS hL k => lv_iadd C.1.1 C.1.2.1 dL_law_812 k) ?_
          refine l_ld C (hin 3 (by decide)) rfl dL_law_813 ?_
          refine l_step (fun H locs ls hS hL k => lv_aload_n C.1.1 C.1.2.1 dL_law_814 rfl (LH_at hL (i := 0) rfl) k) ?_
          refine l_step (fun H locs ls hS hL k => lv_iload_n C.1.1 C.1.2.1 dL_law_815 rfl (LH_at hL (i := 3) rfl) k) ?_
          refine l_step (fun H locs ls hS hL k => lv_iconst (v := 4) C.1.1 C.1.2.1 dL_law_816 (by decide) k) ?_
          refine l_step (fun H locs ls hS hL k => lv_iadd C.1.1 C.1.2.1 dL_law_817 k) ?_
          refine l_ld C (hin 4 (by decide)) rfl dL_law_818 ?_
          refine l_cML C (av := [.int (xs (x3 + 1).toNatClampNeg), .int (xs (x3 + 2).toNatClampNeg), .int (xs (x3 + 3).toNatClampNeg), .int (xs (x3 + 4).toNatClampNeg)]) (st := [.long r]) (kX5_chance l g cs am (xs (x3 + 1).toNatClampNeg) (xs (x3 + 2).toNatClampNeg) (xs (x3 + 3).toNatClampNeg) (xs (x3 + 4).toNatClampNeg) τ) e2 mwX5_chance w1411 ⟨rfl, rfl⟩ ⟨(Nat.le_of_ble_eq_true rfl), (Nat.le_of_ble_eq_true rfl)⟩ rfl rfl (Nat.le_of_ble_eq_true rfl) ⟨(Nat.le_of_ble_eq_true rfl), (Nat.le_of_ble_eq_true rfl)⟩ dL_law_819 ?_
          refine l_step (fun H locs ls hS hL k => W.lcmp C.1.1 C.1.2.1 dL_law_822 k) ?_
          refine l_step (pc2 := 1112) (fun H locs ls hS hL k => lv_if_eq (tgt := 1112) C.1.1 C.1.2.1 dL_law_823 (by decide) (fun _ => k) (fun z => absurd (lgc_self _) z)) ?_
          exact T1 σ1 τ1 hR1
        by_cases q22 : w = 22
        · refine l_step (pc2 := 828) (st2 := []) (fun H locs ls hS hL k9 => by rw [q22]; exact lv_tableIn (tgt := 828) C.1.1 C.1.2.1 dL_law_33 (by decide) (by decide) rfl (by decide) k9) ?_
          obtain ⟨r, σ1, τ1, e1, e2, hR1⟩ := hst.2.2.2.2.2.2.2.2.2.2.2.2.2.2.2.2.2.2.2.2.2.2.1 σ τ hR
          refine l_step (fun H locs ls hS hL k => lv_aload_n C.1.1 C.1.2.1 dL_law_828 rfl (LH_at hL (i := 1) rfl) k) ?_
          refine l_cXI C (av := []) (st := []) (kX4_image l g cs ad σ) e1 mwX4_image w891 ⟨rfl, rfl⟩ ⟨(Nat.le_of_ble_eq_true rfl), (Nat.le_of_ble_eq_true rfl)⟩ rfl rfl (Nat.le_of_ble_eq_true rfl) ⟨(Nat.le_of_ble_eq_true rfl), (Nat.le_of_ble_eq_true rfl)⟩ dL_law_829 ?_
          refine l_step (fun H locs ls hS hL k => lv_aload_n C.1.1 C.1.2.1 dL_law_832 rfl (LH_at hL (i := 2) rfl) k) ?_
          refine l_cMI C (av := []) (st := [.int r]) (kX5_image l g cs am τ) e2 mwX5_image w1417 ⟨rfl, rfl⟩ ⟨(Nat.le_of_ble_eq_true rfl), (Nat.le_of_ble_eq_true rfl)⟩ rfl rfl (Nat.le_of_ble_eq_true rfl) ⟨(Nat.le_of_ble_eq_true rfl), (Nat.le_of_ble_eq_true rfl)⟩ dL_law_833 ?_
          refine l_step (pc2 := 1112) (fun H locs ls hS hL k => lv_icmp_eq (tgt := 1112) C.1.1 C.1.2.1 dL_law_836 (by decide) (fun _ => k) (fun z => absurd rfl z)) ?_
          exact T1 σ1 τ1 hR1
        by_cases q23 : w = 23
        · refine l_step (pc2 := 841) (st2 := []) (fun H locs ls hS hL k9 => by rw [q23]; exact lv_tableIn (tgt := 841) C.1.1 C.1.2.1 dL_law_33 (by decide) (by decide) rfl (by decide) k9) ?_
          obtain ⟨r, σ1, τ1, e1, e2, hR1⟩ := hst.2.2.2.2.2.2.2.2.2.2.2.2.2.2.2.2.2.2.2.2.2.2.2.1 σ τ hR
          refine l_step (fun H locs ls hS hL k => lv_aload_n C.1.1 C.1.2.1 dL_law_841 rfl (LH_at hL (i := 1) rfl) k) ?_
          refine l_cXI C (av := []) (st := []) (kX4_back l g cs ad σ) e1 mwX4_back w895 ⟨rfl, rfl⟩ ⟨(Nat.le_of_ble_eq_true rfl), (Nat.le_of_ble_eq_true rfl)⟩ rfl rfl (Nat.le_of_ble_eq_true rfl) ⟨(Nat.le_of_ble_eq_true rfl), (Nat.le_of_ble_eq_true rfl)⟩ dL_law_842 ?_
          refine l_step (fun H locs ls hS hL k => lv_aload_n C.1.1 C.1.2.1 dL_law_845 rfl (LH_at hL (i := 2) rfl) k) ?_
          refine l_cMI C (av := []) (st := [.int r]) (kX5_back l g cs am τ) e2 mwX5_back w1421 ⟨rfl, rfl⟩ ⟨(Nat.le_of_ble_eq_true rfl), (Nat.le_of_ble_eq_true rfl)⟩ rfl rfl (Nat.le_of_ble_eq_true rfl) ⟨(Nat.le_of_ble_eq_true rfl), (Nat.le_of_ble_eq_true rfl)⟩ dL_law_846 ?_
          refine l_step (pc2 := 1112) (fun H locs ls hS hL k => lv_icmp_eq (tgt := 1112) C.1.1 C.1.2.1 dL_law_849 (by decide) (fun _ => k) (fun z => absurd rfl z)) ?_
          exact T1 σ1 τ1 hR1
        by_cases q24 : w = 24
        · refine l_step (pc2 := 854) (st2 := []) (fun H locs ls hS hL k9 => by rw [q24]; exact lv_tableIn (tgt := 854) C.1.1 C.1.2.1 dL_law_33 (by decide) (by decide) rfl (by decide) k9) ?_
          obtain ⟨r, σ1, τ1, e1, e2, hR1⟩ := hst.2.2.2.2.2.2.2.2.2.2.2.2.2.2.2.2.2.2.2.2.2.2.2.2.1 (xs (x3 + 1).toNatClampNeg) σ τ hR
          refine l_step (fun H locs ls hS hL k => lv_aload_n C.1.1 C.1.2.1 dL_law_854 rfl (LH_at hL (i := 1) rfl) k) ?_
          refine l_step (fun H locs ls hS hL k => lv_aload_n C.1.1 C.1.2.1 dL_law_855 rfl (LH_at hL (i := 0) rfl) k) ?_
          refine l_step (fun H locs ls hS hL k => lv_iload_n C.1.1 C.1.2.1 dL_law_856 rfl (LH_at hL (i := 3) rfl) k) ?_
          refine l_step (fun H locs ls hS hL k => lv_iconst (v := 1) C.1.1 C.1.2.1 dL_law_857 (by decide) k) ?_
          refine l_step (fun H locs ls hS hL k => lv_iadd C.1.1 C.1.2.1 dL_law_858 k) ?_
          refine l_ld C (hin 1 (by decide)) rfl dL_law_859 ?_
          refine l_cXI C (av := [.int (xs (x3 + 1).toNatClampNeg)]) (st := []) (kX4_count l g cs ad (xs (x3 + 1).toNatClampNeg) σ) e1 mwX4_count w899 ⟨rfl, rfl⟩ ⟨(Nat.le_of_ble_eq_true rfl), (Nat.le_of_ble_eq_true rfl)⟩ rfl rfl (Nat.le_of_ble_eq_true rfl) ⟨(Nat.le_of_ble_eq_true rfl), (Nat.le_of_ble_eq_true rfl)⟩ dL_law_860 ?_
          refine l_step (fun H locs ls hS hL k => lv_aload_n C.1.1 C.1.2.1 dL_law_863 rfl (LH_at hL (i := 2) rfl) k) ?_
          refine l_step (fun H locs ls hS hL k => lv_aload_n C.1.1 C.1.2.1 dL_law_864 rfl (LH_at hL (i := 0) rfl) k) ?_
          refine l_step (fun H locs ls hS hL k => lv_iload_n C.1.1 C.1.2.1 dL_law_865 rfl (LH_at hL (i := 3) rfl) k) ?_
          refine l_step (fun H locs ls hS hL k => lv_iconst (v := 1) C.1.1 C.1.2.1 dL_law_866 (by decide) k) ?_
          refine l_step (fun H locs ls hS hL k => lv_iadd C.1.1 C.1.2.1 dL_law_867 k) ?_
          refine l_ld C (hin 1 (by decide)) rfl dL_law_868 ?_
          refine l_cMI C (av := [.int (xs (x3 + 1).toNatClampNeg)]) (st := [.int r]) (kX5_count l g cs am (xs (x3 + 1).toNatClampNeg) τ) e2 mwX5_count w1425 ⟨rfl, rfl⟩ ⟨(Nat.le_of_ble_eq_true rfl), (Nat.le_of_ble_eq_true rfl)⟩ rfl rfl (Nat.le_of_ble_eq_true rfl) ⟨(Nat.le_of_ble_eq_true rfl), (Nat.le_of_ble_eq_true rfl)⟩ dL_law_869 ?_
          refine l_step (pc2 := 1112) (fun H locs ls hS hL k => lv_icmp_eq (tgt := 1112) C.1.1 C.1.2.1 dL_law_872 (by decide) (fun _ => k) (fun z => absurd rfl z)) ?_
          exact T1 σ1 τ1 hR1
        by_cases q25 : w = 25
        · refine l_step (pc2 := 877) (st2 := []) (fun H locs ls hS hL k9 => by rw [q25]; exact lv_tableIn (tgt := 877) C.1.1 C.1.2.1 dL_law_33 (by decide) (by decide) rfl (by decide) k9) ?_
          obtain ⟨r, σ1, τ1, e1, e2, hR1⟩ := hst.2.2.2.2.2.2.2.2.2.2.2.2.2.2.2.2.2.2.2.2.2.2.2.2.2.1 (xs (x3 + 1).toNatClampNeg) (xs (x3 + 2).toNatClampNeg) (xs (x3 + 3).toNatClampNeg) σ τ hR
          refine l_step (fun H locs ls hS hL k => lv_aload_n C.1.1 C.1.2.1 dL_law_877 rfl (LH_at hL (i := 1) rfl) k) ?_
          refine l_step (fun H locs ls hS hL k => lv_aload_n C.1.1 C.1.2.1 dL_law_878 rfl (LH_at hL (i := 0) rfl) k) ?_
          refine l_step (fun H locs ls hS hL k => lv_iload_n C.1.1 C.1.2.1 dL_law_879 rfl (LH_at hL (i := 3) rfl) k) ?_
          refine l_step (fun H locs ls hS hL k => lv_iconst (v := 1) C.1.1 C.1.2.1 dL_law_880 (by decide) k) ?_
          refine l_step (fun H locs ls hS hL k => lv_iadd C.1.1 C.1.2.1 dL_law_881 k) ?_
          refine l_ld C (hin 1 (by decide)) rfl dL_law_882 ?_
          refine l_step (fun H locs ls hS hL k => lv_aload_n C.1.1 C.1.2.1 dL_law_883 rfl (LH_at hL (i := 0) rfl) k) ?_
          refine l_step (fun H locs ls hS hL k => lv_iload_n C.1.1 C.1.2.1 dL_law_884 rfl (LH_at hL (i := 3) rfl) k) ?_
          refine l_step (fun H locs ls hS hL k => lv_iconst (v := 2) C.1.1 C.1.2.1 dL_law_885 (by decide) k) ?_
          refine l_step (fun H locs ls hS hL k => lv_iadd C.1.1 C.1.2.1 dL_law_886 k) ?_
          refine l_ld C (hin 2 (by decide)) rfl dL_law_887 ?_
          refine l_step (fun H locs ls hS hL k => lv_aload_n C.1.1 C.1.2.1 dL_law_888 rfl (LH_at hL (i := 0) rfl) k) ?_
          refine l_step (fun H locs ls hS hL k => lv_iload_n C.1.1 C.1.2.1 dL_law_889 rfl (LH_at hL (i := 3) rfl) k) ?_
          refine l_step (fun H locs ls hS hL k => lv_iconst (v := 3) C.1.1 C.1.2.1 dL_law_890 (by decide) k) ?_
          refine l_step (fun H locs ls hS hL k => lv_iadd C.1.1 C.1.2.1 dL_law_891 k) ?_
          refine l_ld C (hin 3 (by decide)) rfl dL_law_892 ?_
          refine l_cXI C (av := [.int (xs (x3 + 1).toNatClampNeg), .int (xs (x3 + 2).toNatClampNeg), .int (xs (x3 + 3).toNatClampNeg)]) (st := []) (kX4_sheet l g cs ad (xs (x3 + 1).toNatClampNeg) (xs (x3 + 2).toNatClampNeg) (xs (x3 + 3).toNatClampNeg) σ) e1 mwX4_sheet w904 ⟨rfl, rfl⟩ ⟨(Nat.le_of_ble_eq_true rfl), (Nat.le_of_ble_eq_true rfl)⟩ rfl rfl (Nat.le_of_ble_eq_true rfl) ⟨(Nat.le_of_ble_eq_true rfl), (Nat.le_of_ble_eq_true rfl)⟩ dL_law_893 ?_
          refine l_step (fun H locs ls hS hL k => lv_aload_n C.1.1 C.1.2.1 dL_law_896 rfl (LH_at hL (i := 2) rfl) k) ?_
          refine l_step (fun H locs ls hS hL k => lv_aload_n C.1.1 C.1.2.1 dL_law_897 rfl (LH_at hL (i := 0) rfl) k) ?_
          refine l_step (fun H locs ls hS hL k => lv_iload_n C.1.1 C.1.2.1 dL_law_898 rfl (LH_at hL (i := 3) rfl) k) ?_
          refine l_step (fun H locs ls hS hL k => lv_iconst (v := 1) C.1.1 C.1.2.1 dL_law_899 (by decide) k) ?_
          refine l_step (fun H locs ls hS hL k => lv_iadd C.1.1 C.1.2.1 dL_law_900 k) ?_
          refine l_ld C (hin 1 (by decide)) rfl dL_law_901 ?_
          refine l_step (fun H locs ls hS hL k => lv_aload_n C.1.1 C.1.2.1 dL_law_902 rfl (LH_at hL (i := 0) rfl) k) ?_
          refine l_step (fun H locs ls hS hL k => lv_iload_n C.1.1 C.1.2.1 dL_law_903 rfl (LH_at hL (i := 3) rfl) k) ?_
          refine l_step (fun H locs ls hS hL k => lv_iconst (v := 2) C.1.1 C.1.2.1 dL_law_904 (by decide) k) ?_
          refine l_step (fun H locs ls hS hL k => lv_iadd C.1.1 C.1.2.1 dL_law_905 k) ?_
          refine l_ld C (hin 2 (by decide)) rfl dL_law_906 ?_
          refine l_step (fun H locs ls hS hL k => lv_aload_n C.1.1 C.1.2.1 dL_law_907 rfl (LH_at hL (i := 0) rfl) k) ?_
          refine l_step (fun H locs ls hS hL k => lv_iload_n C.1.1 C.1.2.1 dL_law_908 rfl (LH_at hL (i := 3) rfl) k) ?_
          refine l_step (fun H locs ls hS hL k => lv_iconst (v := 3) C.1.1 C.1.2.1 dL_law_909 (by decide) k) ?_
          refine l_step (fun H locs ls hS hL k => lv_iadd C.1.1 C.1.2.1 dL_law_910 k) ?_
          refine l_ld C (hin 3 (by decide)) rfl dL_law_911 ?_
          refine l_cMI C (av := [.int (xs (x3 + 1).toNatClampNeg), .int (xs (x3 + 2).toNatClampNeg), .int (xs (x3 + 3).toNatClampNeg)]) (st := [.int r]) (kX5_sheet l g cs am (xs (x3 + 1).toNatClampNeg) (xs (x3 + 2).toNatClampNeg) (xs (x3 + 3).toNatClampNeg) τ) e2 mwX5_sheet w1429 ⟨rfl, rfl⟩ ⟨(Nat.le_of_ble_eq_true rfl), (Nat.le_of_ble_eq_true rfl)⟩ rfl rfl (Nat.le_of_ble_eq_true rfl) ⟨(Nat.le_of_ble_eq_true rfl), (Nat.le_of_ble_eq_true rfl)⟩ dL_law_912 ?_
          refine l_step (pc2 := 1112) (fun H locs ls hS hL k => lv_icmp_eq (tgt := 1112) C.1.1 C.1.2.1 dL_law_915 (by decide) (fun _ => k) (fun z => absurd rfl z)) ?_
          exact T1 σ1 τ1 hR1
        by_cases q26 : w = 26
        · refine l_step (pc2 := 920) (st2 := []) (fun H locs ls hS hL k9 => by rw [q26]; exact lv_tableIn (tgt := 920) C.1.1 C.1.2.1 dL_law_33 (by decide) (by decide) rfl (by decide) k9) ?_
          obtain ⟨r, σ1, τ1, e1, e2, hR1⟩ := hst.2.2.2.2.2.2.2.2.2.2.2.2.2.2.2.2.2.2.2.2.2.2.2.2.2.2.1 (xs (x3 + 1).toNatClampNeg) (xs (x3 + 2).toNatClampNeg) (xs (x3 + 3).toNatClampNeg) σ τ hR
          refine l_step (fun H locs ls hS hL k => lv_aload_n C.1.1 C.1.2.1 dL_law_920 rfl (LH_at hL (i := 1) rfl) k) ?_
          refine l_step (fun H locs ls hS hL k => lv_aload_n C.1.1 C.1.2.1 dL_law_921 rfl (LH_at hL (i := 0) rfl) k) ?_
          refine l_step (fun H locs ls hS hL k => lv_iload_n C.1.1 C.1.2.1 dL_law_922 rfl (LH_at hL (i := 3) rfl) k) ?_
          refine l_step (fun H locs ls hS hL k => lv_iconst (v := 1) C.1.1 C.1.2.1 dL_law_923 (by decide) k) ?_
          refine l_step (fun H locs ls hS hL k => lv_iadd C.1.1 C.1.2.1 dL_law_924 k) ?_
          refine l_ld C (hin 1 (by decide)) rfl dL_law_925 ?_
          refine l_step (fun H locs ls hS hL k => lv_aload_n C.1.1 C.1.2.1 dL_law_926 rfl (LH_at hL (i := 0) rfl) k) ?_
          refine l_step (fun H locs ls hS hL k => lv_iload_n C.1.1 C.1.2.1 dL_law_927 rfl (LH_at hL (i := 3) rfl) k) ?_
          refine l_step (fun H locs ls hS hL k => lv_iconst (v := 2) C.1.1 C.1.2.1 dL_law_928 (by decide) k) ?_
          refine l_step (fun H locs ls hS hL k => lv_iadd C.1.1 C.1.2.1 dL_law_929 k) ?_
          refine l_ld C (hin 2 (by decide)) rfl dL_law_930 ?_
          refine l_step (fun H locs ls hS hL k => lv_aload_n C.1.1 C.1.2.1 dL_law_931 rfl (LH_at hL (i := 0) rfl) k) ?_
          refine l_step (fun H locs ls hS hL k => lv_iload_n C.1.1 C.1.2.1 dL_law_932 rfl (LH_at hL (i := 3) rfl) k) ?_
          refine l_step (fun H locs ls hS hL k => lv_iconst (v := 3) C.1.1 C.1.2.1 dL_law_933 (by decide) k) ?_
          refine l_step (fun H locs ls hS hL k => lv_iadd C.1.1 C.1.2.1 dL_law_934 k) ?_
          refine l_ld C (hin 3 (by decide)) rfl dL_law_935 ?_
          refine l_cXI C (av := [.int (xs (x3 + 1).toNatClampNeg), .int (xs (x3 + 2).toNatClampNeg), .int (xs (x3 + 3).toNatClampNeg)]) (st := []) (kX4_cell l g cs ad (xs (x3 + 1).toNatClampNeg) (xs (x3 + 2).toNatClampNeg) (xs (x3 + 3).toNatClampNeg) σ) e1 mwX4_cell w908 ⟨rfl, rfl⟩ ⟨(Nat.le_of_ble_eq_true rfl), (Nat.le_of_ble_eq_true rfl)⟩ rfl rfl (Nat.le_of_ble_eq_true rfl) ⟨(Nat.le_of_ble_eq_true rfl), (Nat.le_of_ble_eq_true rfl)⟩ dL_law_936 ?_
          refine l_step (fun H locs ls hS hL k => lv_aload_n C.1.1 C.1.2.1 dL_law_939 rfl (LH_at hL (i := 2) rfl) k) ?_
          refine l_step (fun H locs ls hS hL k => lv_aload_n C.1.1 C.1.2.1 dL_law_940 rfl (LH_at hL (i := 0) rfl) k) ?_
          refine l_step (fun H locs ls hS hL k => lv_iload_n C.1.1 C.1.2.1 dL_law_941 rfl (LH_at hL (i := 3) rfl) k) ?_
          refine l_step (fun H locs ls hS hL k => lv_iconst (v := 1) C.1.1 C.1.2.1 dL_law_942 (by decide) k) ?_
          refine l_step (fun H locs ls hS hL k => lv_iadd C.1.1 C.1.2.1 dL_law_943 k) ?_
          refine l_ld C (hin 1 (by decide)) rfl dL_law_944 ?_
          refine l_step (fun H locs ls hS hL k => lv_aload_n C.1.1 C.1.2.1 dL_law_945 rfl (LH_at hL (i := 0) rfl) k) ?_
          refine l_step (fun H locs ls hS hL k => lv_iload_n C.1.1 C.1.2.1 dL_law_946 rfl (LH_at hL (i := 3) rfl) k) ?_
          refine l_step (fun H locs ls hS hL k => lv_iconst (v := 2) C.1.1 C.1.2.1 dL_law_947 (by decide) k) ?_
          refine l_step (fun H locs ls hS hL k => lv_iadd C.1.1 C.1.2.1 dL_law_948 k) ?_
          refine l_ld C (hin 2 (by decide)) rfl dL_law_949 ?_
          refine l_step (fun H locs ls hS hL k => lv_aload_n C.1.1 C.1.2.1 dL_law_950 rfl (LH_at hL (i := 0) rfl) k) ?_
          refine l_step (fun H locs ls hS hL k => lv_iload_n C.1.1 C.1.2.1 dL_law_951 rfl (LH_at hL (i := 3) rfl) k) ?_
          refine l_step (fun H locs ls hS hL k => lv_iconst (v := 3) C.1.1 C.1.2.1 dL_law_952 (by decide) k) ?_
          refine l_step (fun H locs ls hS hL k => lv_iadd C.1.1 C.1.2.1 dL_law_953 k) ?_
          refine l_ld C (hin 3 (by decide)) rfl dL_law_954 ?_
          refine l_cMI C (av := [.int (xs (x3 + 1).toNatClampNeg), .int (xs (x3 + 2).toNatClampNeg), .int (xs (x3 + 3).toNatClampNeg)]) (st := [.int r]) (kX5_cell l g cs am (xs (x3 + 1).toNatClampNeg) (xs (x3 + 2).toNatClampNeg) (xs (x3 + 3).toNatClampNeg) τ) e2 mwX5_cell w1430 ⟨rfl, rfl⟩ ⟨(Nat.le_of_ble_eq_true rfl), (Nat.le_of_ble_eq_true rfl)⟩ rfl rfl (Nat.le_of_ble_eq_true rfl) ⟨(Nat.le_of_ble_eq_true rfl), (Nat.le_of_ble_eq_true rfl)⟩ dL_law_955 ?_
          refine l_step (pc2 := 1112) (fun H locs ls hS hL k => lv_icmp_eq (tgt := 1112) C.1.1 C.1.2.1 dL_law_958 (by decide) (fun _ => k) (fun z => absurd rfl z)) ?_
          exact T1 σ1 τ1 hR1
        by_cases q27 : w = 27
        · refine l_step (pc2 := 963) (st2 := []) (fun H locs ls hS hL k9 => by rw [q27]; exact lv_tableIn (tgt := 963) C.1.1 C.1.2.1 dL_law_33 (by decide) (by decide) rfl (by decide) k9) ?_
          obtain ⟨r, σ1, τ1, e1, e2, hR1⟩ := hst.2.2.2.2.2.2.2.2.2.2.2.2.2.2.2.2.2.2.2.2.2.2.2.2.2.2.2.1 (xs (x3 + 1).toNatClampNeg) (xs (x3 + 2).toNatClampNeg) (xs (x3 + 3).toNatClampNeg) (xs (x3 + 4).toNatClampNeg) (xs (x3 + 5).toNatClampNeg) σ τ hR
          refine l_step (fun H locs ls hS hL k => lv_aload_n C.1.1 C.1.2.1 dL_law_963 rfl (LH_at hL (i := 1) rfl) k) ?_
          refine l_step (fun H locs ls hS hL k => lv_aload_n C.1.1 C.1.2.1 dL_law_964 rfl (LH_at hL (i := 0) rfl) k) ?_
          refine l_step (fun H locs ls hS hL k => lv_iload_n C.1.1 C.1.2.1 dL_law_965 rfl (LH_at hL (i := 3) rfl) k) ?_
          refine l_step (fun H locs ls hS hL k => lv_iconst (v := 1) C.1.1 C.1.2.1 dL_law_966 (by decide) k) ?_
          refine l_step (fun H locs ls hS hL k => lv_iadd C.1.1 C.1.2.1 dL_law_967 k) ?_
          refine l_ld C (hin 1 (by decide)) rfl dL_law_968 ?_
          refine l_step (fun H locs ls hS hL k => lv_aload_n C.1.1 C.1.2.1 dL_law_969 rfl (LH_at hL (i := 0) rfl) k) ?_
          refine l_step (fun H locs ls hS hL k => lv_iload_n C.1.1 C.1.2.1 dL_law_970 rfl (LH_at hL (i := 3) rfl) k) ?_
          refine l_step (fun H locs ls hS hL k => lv_iconst (v := 2) C.1.1 C.1.2.1 dL_law_971 (by decide) k) ?_
          refine l_step (fun H locs ls hS hL k => lv_iadd C.1.1 C.1.2.1 dL_law_972 k) ?_
          refine l_ld C (hin 2 (by decide)) rfl dL_law_973 ?_
          refine l_step (fun H locs ls hS hL k => lv_aload_n C.1.1 C.1.2.1 dL_law_974 rfl (LH_at hL (i := 0) rfl) k) ?_
          refine l_step (fun H locs ls hS hL k => lv_iload_n C.1.1 C.1.2.1 dL_law_975 rfl (LH_at hL (i := 3) rfl) k) ?_
          refine l_step (fun H locs ls hS hL k => lv_iconst (v := 3) C.1.1 C.1.2.1 dL_law_976 (by decide) k) ?_
          refine l_step (fun H locs ls hS hL k => lv_iadd C.1.1 C.1.2.1 dL_law_977 k) ?_
          refine l_ld C (hin 3 (by decide)) rfl dL_law_978 ?_
          refine l_step (fun H locs ls hS hL k => lv_aload_n C.1.1 C.1.2.1 dL_law_979 rfl (LH_at hL (i := 0) rfl) k) ?_
          refine l_step (fun H locs ls hS hL k => lv_iload_n C.1.1 C.1.2.1 dL_law_980 rfl (LH_at hL (i := 3) rfl) k) ?_
          refine l_step (fun H locs ls hS hL k => lv_iconst (v := 4) C.1.1 C.1.2.1 dL_law_981 (by decide) k) ?_
          refine l_step (fun H locs ls hS hL k => lv_iadd C.1.1 C.1.2.1 dL_law_982 k) ?_
          refine l_ld C (hin 4 (by decide)) rfl dL_law_983 ?_
          refine l_step (fun H locs ls hS hL k => lv_aload_n C.1.1 C.1.2.1 dL_law_984 rfl (LH_at hL (i := 0) rfl) k) ?_
          refine l_step (fun H locs ls hS hL k => lv_iload_n C.1.1 C.1.2.1 dL_law_985 rfl (LH_at hL (i := 3) rfl) k) ?_
          refine l_step (fun H locs ls hS hL k => lv_iconst (v := 5) C.1.1 C.1.2.1 dL_law_986 (by decide) k) ?_
          refine l_step (fun H locs ls hS hL k => lv_iadd C.1.1 C.1.2.1 dL_law_987 k) ?_
          refine l_ld C (hin 5 (by decide)) rfl dL_law_988 ?_
          refine l_cXI C (av := [.int (xs (x3 + 1).toNatClampNeg), .int (xs (x3 + 2).toNatClampNeg), .int (xs (x3 + 3).toNatClampNeg), .int (xs (x3 + 4).toNatClampNeg), .int (xs (x3 + 5).toNatClampNeg)]) (st := []) (kX4_copy l g cs ad (xs (x3 + 1).toNatClampNeg) (xs (x3 + 2).toNatClampNeg) (xs (x3 + 3).toNatClampNeg) (xs (x3 + 4).toNatClampNeg) (xs (x3 + 5).toNatClampNeg) σ) e1 mwX4_copy w912 ⟨rfl, rfl⟩ ⟨(Nat.le_of_ble_eq_true rfl), (Nat.le_of_ble_eq_true rfl)⟩ rfl rfl (Nat.le_of_ble_eq_true rfl) ⟨(Nat.le_of_ble_eq_true rfl), (Nat.le_of_ble_eq_true rfl)⟩ dL_law_989 ?_
          refine l_step (fun H locs ls hS hL k => lv_aload_n C.1.1 C.1.2.1 dL_law_992 rfl (LH_at hL (i := 2) rfl) k) ?_
          refine l_step (fun H locs ls hS hL k => lv_aload_n C.1.1 C.1.2.1 dL_law_993 rfl (LH_at hL (i := 0) rfl) k) ?_
          refine l_step (fun H locs ls hS hL k => lv_iload_n C.1.1 C.1.2.1 dL_law_994 rfl (LH_at hL (i := 3) rfl) k) ?_
          refine l_step (fun H locs ls hS hL k => lv_iconst (v := 1) C.1.1 C.1.2.1 dL_law_995 (by decide) k) ?_
          refine l_step (fun H locs ls hS hL k => lv_iadd C.1.1 C.1.2.1 dL_law_996 k) ?_
          refine l_ld C (hin 1 (by decide)) rfl dL_law_997 ?_
          refine l_step (fun H locs ls hS hL k => lv_aload_n C.1.1 C.1.2.1 dL_law_998 rfl (LH_at hL (i := 0) rfl) k) ?_
          refine l_step (fun H locs ls hS hL k => lv_iload_n C.1.1 C.1.2.1 dL_law_999 rfl (LH_at hL (i := 3) rfl) k) ?_
          refine l_step (fun H locs ls hS hL k => lv_iconst (v := 2) C.1.1 C.1.2.1 dL_law_1000 (by decide) k) ?_
          refine l_step (fun H locs ls hS hL k => lv_iadd C.1.1 C.1.2.1 dL_law_1001 k) ?_
          refine l_ld C (hin 2 (by decide)) rfl dL_law_1002 ?_
          refine l_step (fun H locs ls hS hL k => lv_aload_n C.1.1 C.1.2.1 dL_law_1003 rfl (LH_at hL (i := 0) rfl) k) ?_
          refine l_step (fun H locs ls hS hL k => lv_iload_n C.1.1 C.1.2.1 dL_law_1004 rfl (LH_at hL (i := 3) rfl) k) ?_
          refine l_step (fun H locs ls hS hL k => lv_iconst (v := 3) C.1.1 C.1.2.1 dL_law_1005 (by decide) k) ?_
          refine l_step (fun H locs ls hS hL k => lv_iadd C.1.1 C.1.2.1 dL_law_1006 k) ?_
          refine l_ld C (hin 3 (by decide)) rfl dL_law_1007 ?_
          refine l_step (fun H locs ls hS hL k => lv_aload_n C.1.1 C.1.2.1 dL_law_1008 rfl (LH_at hL (i := 0) rfl) k) ?_
          refine l_step (fun H locs ls hS hL k => lv_iload_n C.1.1 C.1.2.1 dL_law_1009 rfl (LH_at hL (i := 3) rfl) k) ?_
          refine l_step (fun H locs ls hS hL k => lv_iconst (v := 4) C.1.1 C.1.2.1 dL_law_1010 (by decide) k) ?_
          refine l_step (fun H locs ls hS hL k => lv_iadd C.1.1 C.1.2.1 dL_law_1011 k) ?_
          refine l_ld C (hin 4 (by decide)) rfl dL_law_1012 ?_
          refine l_step (fun H locs ls hS hL k => lv_aload_n C.1.1 C.1.2.1 dL_law_1013 rfl (LH_at hL (i := 0) rfl) k) ?_
          refine l_step (fun H locs ls hS hL k => lv_iload_n C.1.1 C.1.2.1 dL_law_1014 rfl (LH_at hL (i := 3) rfl) k) ?_
          refine l_step (fun H locs ls hS hL k => lv_iconst (v := 5) C.1.1 C.1.2.1 dL_law_1015 (by decide) k) ?_
          refine l_step (fun H locs ls hS hL k => lv_iadd C.1.1 C.1.2.1 dL_law_1016 k) ?_
          refine l_ld C (hin 5 (by decide)) rfl dL_law_1017 ?_
          refine l_cMI C (av := [.int (xs (x3 + 1).toNatClampNeg), .int (xs (x3 + 2).toNatClampNeg), .int (xs (x3 + 3).toNatClampNeg), .int (xs (x3 + 4).toNatClampNeg), .int (xs (x3 + 5).toNatClampNeg)]) (st := [.int r]) (kX5_copy l g cs am (xs (x3 + 1).toNatClampNeg) (xs (x3 + 2).toNatClampNeg) (xs (x3 + 3).toNatClampNeg) (xs (x3 + 4).toNatClampNeg) (xs (x3 + 5).toNatClampNeg) τ) e2 mwX5_copy w1434 ⟨rfl, rfl⟩ ⟨(Nat.le_of_ble_eq_true rfl), (Nat.le_of_ble_eq_true rfl)⟩ rfl rfl (Nat.le_of_ble_eq_true rfl) ⟨(Nat.le_of_ble_eq_true rfl), (Nat.le_of_ble_eq_true rfl)⟩ dL_law_1018 ?_
          refine l_step (pc2 := 1112) (fun H locs ls hS hL k => lv_icmp_eq (tgt := 1112) C.1.1 C.1.2.1 dL_law_1021 (by decide) (fun _ => k) (fun z => absurd rfl z)) ?_
          exact T1 σ1 τ1 hR1
        by_cases q28 : w = 28
        · refine l_step (pc2 := 1026) (st2 := []) (fun H locs ls hS hL k9 => by rw [q28]; exact lv_tableIn (tgt := 1026) C.1.1 C.1.2.1 dL_law_33 (by decide) (by decide) rfl (by decide) k9) ?_
          obtain ⟨r, σ1, τ1, e1, e2, hR1⟩ := hst.2.2.2.2.2.2.2.2.2.2.2.2.2.2.2.2.2.2.2.2.2.2.2.2.2.2.2.2.1 (xs (x3 + 1).toNatClampNeg) (xs (x3 + 2).toNatClampNeg) (xs (x3 + 3).toNatClampNeg) (xs (x3 + 4).toNatClampNeg) σ τ hR
          refine l_step (fun H locs ls hS hL k => lv_aload_n C.1.1 C.1.2.1 dL_law_1026 rfl (LH_at hL (i := 1) rfl) k) ?_
          refine l_step (fun H locs ls hS hL k => lv_aload_n C.1.1 C.1.2.1 dL_law_1027 rfl (LH_at hL (i := 0) rfl) k) ?_
          refine l_step (fun H locs ls hS hL k => lv_iload_n C.1.1 C.1.2.1 dL_law_1028 rfl (LH_at hL (i := 3) rfl) k) ?_
          refine l_step (fun H locs ls hS hL k => lv_iconst (v := 1) C.1.1 C.1.2.1 dL_law_1029 (by decide) k) ?_
          refine l_step (fun H locs ls hS hL k => lv_iadd C.1.1 C.1.2.1 dL_law_1030 k) ?_
          refine l_ld C (hin 1 (by decide)) rfl dL_law_1031 ?_
          refine l_step (fun H locs ls hS hL k => lv_aload_n C.1.1 C.1.2.1 dL_law_1032 rfl (LH_at hL (i := 0) rfl) k) ?_
          refine l_step (fun H locs ls hS hL k => lv_iload_n C.1.1 C.1.2.1 dL_law_1033 rfl (LH_at hL (i := 3) rfl) k) ?_
          refine l_step (fun H locs ls hS hL k => lv_iconst (v := 2) C.1.1 C.1.2.1 dL_law_1034 (by decide) k) ?_
          refine l_step (fun H locs ls hS hL k => lv_iadd C.1.1 C.1.2.1 dL_law_1035 k) ?_
          refine l_ld C (hin 2 (by decide)) rfl dL_law_1036 ?_
          refine l_step (fun H locs ls hS hL k => lv_aload_n C.1.1 C.1.2.1 dL_law_1037 rfl (LH_at hL (i := 0) rfl) k) ?_
          refine l_step (fun H locs ls hS hL k => lv_iload_n C.1.1 C.1.2.1 dL_law_1038 rfl (LH_at hL (i := 3) rfl) k) ?_
          refine l_step (fun H locs ls hS hL k => lv_iconst (v := 3) C.1.1 C.1.2.1 dL_law_1039 (by decide) k) ?_
          refine l_step (fun H locs ls hS hL k => lv_iadd C.1.1 C.1.2.1 dL_law_1040 k) ?_
          refine l_ld C (hin 3 (by decide)) rfl dL_law_1041 ?_
          refine l_step (fun H locs ls hS hL k => lv_aload_n C.1.1 C.1.2.1 dL_law_1042 rfl (LH_at hL (i := 0) rfl) k) ?_
          refine l_step (fun H locs ls hS hL k => lv_iload_n C.1.1 C.1.2.1 dL_law_1043 rfl (LH_at hL (i := 3) rfl) k) ?_
          refine l_step (fun H locs ls hS hL k => lv_iconst (v := 4) C.1.1 C.1.2.1 dL_law_1044 (by decide) k) ?_
          refine l_step (fun H locs ls hS hL k => lv_iadd C.1.1 C.1.2.1 dL_law_1045 k) ?_
          refine l_ld C (hin 4 (by decide)) rfl dL_law_1046 ?_
          refine l_cXI C (av := [.int (xs (x3 + 1).toNatClampNeg), .int (xs (x3 + 2).toNatClampNeg), .int (xs (x3 + 3).toNatClampNeg), .int (xs (x3 + 4).toNatClampNeg)]) (st := []) (kX4_heap l g cs ad (xs (x3 + 1).toNatClampNeg) (xs (x3 + 2).toNatClampNeg) (xs (x3 + 3).toNatClampNeg) (xs (x3 + 4).toNatClampNeg) σ) e1 mwX4_heap w921 ⟨rfl, rfl⟩ ⟨(Nat.le_of_ble_eq_true rfl), (Nat.le_of_ble_eq_true rfl)⟩ rfl rfl (Nat.le_of_ble_eq_true rfl) ⟨(Nat.le_of_ble_eq_true rfl), (Nat.le_of_ble_eq_true rfl)⟩ dL_law_1047 ?_
          refine l_step (fun H locs ls hS hL k => lv_aload_n C.1.1 C.1.2.1 dL_law_1050 rfl (LH_at hL (i := 2) rfl) k) ?_
          refine l_step (fun H locs ls hS hL k => lv_aload_n C.1.1 C.1.2.1 dL_law_1051 rfl (LH_at hL (i := 0) rfl) k) ?_
          refine l_step (fun H locs ls hS hL k => lv_iload_n C.1.1 C.1.2.1 dL_law_1052 rfl (LH_at hL (i := 3) rfl) k) ?_
          refine l_step (fun H locs ls hS hL k => lv_iconst (v := 1) C.1.1 C.1.2.1 dL_law_1053 (by decide) k) ?_
          refine l_step (fun H locs ls hS hL k => lv_iadd C.1.1 C.1.2.1 dL_law_1054 k) ?_
          refine l_ld C (hin 1 (by decide)) rfl dL_law_1055 ?_
          refine l_step (fun H locs ls hS hL k => lv_aload_n C.1.1 C.1.2.1 dL_law_1056 rfl (LH_at hL (i := 0) rfl) k) ?_
          refine l_step (fun H locs ls hS hL k => lv_iload_n C.1.1 C.1.2.1 dL_law_1057 rfl (LH_at hL (i := 3) rfl) k) ?_
          refine l_step (fun H locs ls hS hL k => lv_iconst (v := 2) C.1.1 C.1.2.1 dL_law_1058 (by decide) k) ?_
          refine l_step (fun H locs ls hS hL k => lv_iadd C.1.1 C.1.2.1 dL_law_1059 k) ?_
          refine l_ld C (hin 2 (by decide)) rfl dL_law_1060 ?_
          refine l_step (fun H locs ls hS hL k => lv_aload_n C.1.1 C.1.2.1 dL_law_1061 rfl (LH_at hL (i := 0) rfl) k) ?_
          refine l_step (fun H locs ls hS hL k => lv_iload_n C.1.1 C.1.2.1 dL_law_1062 rfl (LH_at hL (i := 3) rfl) k) ?_
          refine l_step (fun H locs ls hS hL k => lv_iconst (v := 3) C.1.1 C.1.2.1 dL_law_1063 (by decide) k) ?_
          refine l_step (fun H locs ls hS hL k => lv_iadd C.1.1 C.1.2.1 dL_law_1064 k) ?_
          refine l_ld C (hin 3 (by decide)) rfl dL_law_1065 ?_
          refine l_step (fun H locs ls hS hL k => lv_aload_n C.1.1 C.1.2.1 dL_law_1066 rfl (LH_at hL (i := 0) rfl) k) ?_
          refine l_step (fun H locs ls hS hL k => lv_iload_n C.1.1 C.1.2.1 dL_law_1067 rfl (LH_at hL (i := 3) rfl) k) ?_
          refine l_step (fun H locs ls hS hL k => lv_iconst (v := 4) C.1.1 C.1.2.1 dL_law_1068 (by decide) k) ?_
          refine l_step (fun H locs ls hS hL k => lv_iadd C.1.1 C.1.2.1 dL_law_1069 k) ?_
          refine l_ld C (hin 4 (by decide)) rfl dL_law_1070 ?_
          refine l_cMI C (av := [.int (xs (x3 + 1).toNatClampNeg), .int (xs (x3 + 2).toNatClampNeg), .int (xs (x3 + 3).toNatClampNeg), .int (xs (x3 + 4).toNatClampNeg)]) (st := [.int r]) (kX5_heap l g cs am (xs (x3 + 1).toNatClampNeg) (xs (x3 + 2).toNatClampNeg) (xs (x3 + 3).toNatClampNeg) (xs (x3 + 4).toNatClampNeg) τ) e2 mwX5_heap w1438 ⟨rfl, rfl⟩ ⟨(Nat.le_of_ble_eq_true rfl), (Nat.le_of_ble_eq_true rfl)⟩ rfl rfl (Nat.le_of_ble_eq_true rfl) ⟨(Nat.le_of_ble_eq_true rfl), (Nat.le_of_ble_eq_true rfl)⟩ dL_law_1071 ?_
          refine l_step (pc2 := 1112) (fun H locs ls hS hL k => lv_icmp_eq (tgt := 1112) C.1.1 C.1.2.1 dL_law_1074 (by decide) (fun _ => k) (fun z => absurd rfl z)) ?_
          exact T1 σ1 τ1 hR1
        by_cases q29 : w = 29
        · refine l_step (pc2 := 1079) (st2 := []) (fun H locs ls hS hL k9 => by rw [q29]; exact lv_tableIn (tgt := 1079) C.1.1 C.1.2.1 dL_law_33 (by decide) (by decide) rfl (by decide) k9) ?_
          obtain ⟨r, σ1, τ1, e1, e2, hR1⟩ := hst.2.2.2.2.2.2.2.2.2.2.2.2.2.2.2.2.2.2.2.2.2.2.2.2.2.2.2.2.2 (xs (x3 + 1).toNatClampNeg) (xs (x3 + 2).toNatClampNeg) σ τ hR
          refine l_step (fun H locs ls hS hL k => lv_aload_n C.1.1 C.1.2.1 dL_law_1079 rfl (LH_at hL (i := 1) rfl) k) ?_
          refine l_step (fun H locs ls hS hL k => lv_aload_n C.1.1 C.1.2.1 dL_law_1080 rfl (LH_at hL (i := 0) rfl) k) ?_
          refine l_step (fun H locs ls hS hL k => lv_iload_n C.1.1 C.1.2.1 dL_law_1081 rfl (LH_at hL (i := 3) rfl) k) ?_
          refine l_step (fun H locs ls hS hL k => lv_iconst (v := 1) C.1.1 C.1.2.1 dL_law_1082 (by decide) k) ?_
          refine l_step (fun H locs ls hS hL k => lv_iadd C.1.1 C.1.2.1 dL_law_1083 k) ?_
          refine l_ld C (hin 1 (by decide)) rfl dL_law_1084 ?_
          refine l_step (fun H locs ls hS hL k => lv_aload_n C.1.1 C.1.2.1 dL_law_1085 rfl (LH_at hL (i := 0) rfl) k) ?_
          refine l_step (fun H locs ls hS hL k => lv_iload_n C.1.1 C.1.2.1 dL_law_1086 rfl (LH_at hL (i := 3) rfl) k) ?_
          refine l_step (fun H locs ls hS hL k => lv_iconst (v := 2) C.1.1 C.1.2.1 dL_law_1087 (by decide) k) ?_
          refine l_step (fun H locs ls hS hL k => lv_iadd C.1.1 C.1.2.1 dL_law_1088 k) ?_
          refine l_ld C (hin 2 (by decide)) rfl dL_law_1089 ?_
          refine l_cXI C (av := [.int (xs (x3 + 1).toNatClampNeg), .int (xs (x3 + 2).toNatClampNeg)]) (st := []) (kX4_taken l g cs ad (xs (x3 + 1).toNatClampNeg) (xs (x3 + 2).toNatClampNeg) σ) e1 mwX4_taken w930 ⟨rfl, rfl⟩ ⟨(Nat.le_of_ble_eq_true rfl), (Nat.le_of_ble_eq_true rfl)⟩ rfl rfl (Nat.le_of_ble_eq_true rfl) ⟨(Nat.le_of_ble_eq_true rfl), (Nat.le_of_ble_eq_true rfl)⟩ dL_law_1090 ?_
          refine l_step (fun H locs ls hS hL k => lv_aload_n C.1.1 C.1.2.1 dL_law_1093 rfl (LH_at hL (i := 2) rfl) k) ?_
          refine l_step (fun H locs ls hS hL k => lv_aload_n C.1.1 C.1.2.1 dL_law_1094 rfl (LH_at hL (i := 0) rfl) k) ?_
          refine l_step (fun H locs ls hS hL k => lv_iload_n C.1.1 C.1.2.1 dL_law_1095 rfl (LH_at hL (i := 3) rfl) k) ?_
          refine l_step (fun H locs ls hS hL k => lv_iconst (v := 1) C.1.1 C.1.2.1 dL_law_1096 (by decide) k) ?_
          refine l_step (fun H locs ls hS hL k => lv_iadd C.1.1 C.1.2.1 dL_law_1097 k) ?_
          refine l_ld C (hin 1 (by decide)) rfl dL_law_1098 ?_
          refine l_step (fun H locs ls hS hL k => lv_aload_n C.1.1 C.1.2.1 dL_law_1099 rfl (LH_at hL (i := 0) rfl) k) ?_
          refine l_step (fun H locs ls hS hL k => lv_iload_n C.1.1 C.1.2.1 dL_law_1100 rfl (LH_at hL (i := 3) rfl) k) ?_
          refine l_step (fun H locs ls hS hL k => lv_iconst (v := 2) C.1.1 C.1.2.1 dL_law_1101 (by decide) k) ?_
          refine l_step (fun H locs ls hS hL k => lv_iadd C.1.1 C.1.2.1 dL_law_1102 k) ?_
          refine l_ld C (hin 2 (by decide)) rfl dL_law_1103 ?_
          refine l_cMI C (av := [.int (xs (x3 + 1).toNatClampNeg), .int (xs (x3 + 2).toNatClampNeg)]) (st := [.int r]) (kX5_taken l g cs am (xs (x3 + 1).toNatClampNeg) (xs (x3 + 2).toNatClampNeg) τ) e2 mwX5_taken w1443 ⟨rfl, rfl⟩ ⟨(Nat.le_of_ble_eq_true rfl), (Nat.le_of_ble_eq_true rfl)⟩ rfl rfl (Nat.le_of_ble_eq_true rfl) ⟨(Nat.le_of_ble_eq_true rfl), (Nat.le_of_ble_eq_true rfl)⟩ dL_law_1104 ?_
          refine l_step (pc2 := 1112) (fun H locs ls hS hL k => lv_icmp_eq (tgt := 1112) C.1.1 C.1.2.1 dL_law_1107 (by decide) (fun _ => k) (fun z => absurd rfl z)) ?_
          exact T1 σ1 τ1 hR1
        refine l_step (pc2 := 1112) (st2 := []) (fun H locs ls hS hL k9 => lv_tableOut (tgt := 1112) C.1.1 C.1.2.1 dL_law_33 (by have eq0 := neI (0) q0 (by decide); have eq1 := neI (1) q1 (by decide); have eq2 := neI (2) q2 (by decide); have eq3 := neI (3) q3 (by decide); have eq4 := neI (4) q4 (by decide); have eq5 := neI (5) q5 (by decide); have eq6 := neI (6) q6 (by decide); have eq7 := neI (7) q7 (by decide); have eq8 := neI (8) q8 (by decide); have eq9 := neI (9) q9 (by decide); have eq10 := neI (10) q10 (by decide); have eq11 := neI (11) q11 (by decide); have eq12 := neI (12) q12 (by decide); have eq13 := neI (13) q13 (by decide); have eq14 := neI (14) q14 (by decide); have eq15 := neI (15) q15 (by decide); have eq16 := neI (16) q16 (by decide); have eq17 := neI (17) q17 (by decide); have eq18 := neI (18) q18 (by decide); have eq19 := neI (19) q19 (by decide); have eq20 := neI (20) q20 (by decide); have eq21 := neI (21) q21 (by decide); have eq22 := neI (22) q22 (by decide); have eq23 := neI (23) q23 (by decide); have eq24 := neI (24) q24 (by decide); have eq25 := neI (25) q25 (by decide); have eq26 := neI (26) q26 (by decide); have eq27 := neI (27) q27 (by decide); have eq28 := neI (28) q28 (by decide); have eq29 := neI (29) q29 (by decide); omega) (by decide) k9) ?_
        exact T1 σ τ hR
      exact T2 σ τ hR w
