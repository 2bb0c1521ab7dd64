/-! ===== calls, ends, layouts ===== -/
theorem neI {x : Int32} {k : Int32} (n : Int) (h : ¬ x = k) (e : k.toInt = n) : x.toInt ≠ n := fun q => h (Int32.toInt_inj.mp (q.trans e.symm))
def CtS (l : Launch) (g : GG) (cs : CS) (ad : Nat → Nat) (w : List Sh) (y : MethodName) (cd : Cond) (rm : Room) (av : List Value) (σ : Mem) (e : Option Nat) : Prop :=
  ∀ r, e = some r → ∀ sz, Met l y (cd :: TB) rm (va_Pc av (PreW g cs ad w σ sz)) (va_Qr (fun (_ : Unit) => True) (fun _ a t => a = cs.2.1 r ∧ va_P g.1 vwCl (wd ad σ 0 w) t.heap) (AA ad w.length sz)) 0 0 (AA ad w.length sz)
def QS (g : GG) (cs : CS) (ad : Nat → Nat) (w : List Sh) (A : Nat → Prop) (below : List Frame) (args : Array Value) (s : State) (σ : Mem) : Nat → State → Prop := fun q => MQ below (va_Qr (fun (_ : Unit) => True) (fun _ a t => a = cs.2.1 q ∧ va_P g.1 vwCl (wd ad σ 0 w) t.heap) A) args s 0 0 A
def isC (v : Int32) : Bool := decide (0 ≤ v.toInt) && decide (v.toInt < 65536)
theorem isC_nar {v : Int32} (h : isC v = true) : narrow .char (.int v) = .int v := by
  simp only [isC, Bool.and_eq_true, decide_eq_true_eq] at h
  have h0 : vp_in v 65536 := vp_in_iff.mpr ⟨h.1, h.2⟩
  obtain ⟨j, hj, rfl⟩ := vp_in_of h0 (by decide)
  exact (pk_charN hj).1
def QU (g : GG) (ad : Nat → Nat) (w : List Sh) (A : Nat → Prop) (below : List Frame) (args : Array Value) (s : State) (σ : Mem) : Unit → State → Prop := fun _ => QV g ad w A below args s σ
def pu0 (o : Option Unit) (σ : Mem) : Option Mem := match o with
  | some _ => some σ
  | none => none
theorem lg_len1 : ∀ {av : List Value}, (∀ v ∈ av, v.category = 1) → (lg_sl av).length ≤ av.length
  | [], _ => Nat.le_refl _
  | v :: av, h => by
    have h1 : v.category = 1 := h v List.mem_cons_self
    have h2 : ¬ v.category = 2 := by omega
    have h3 := lg_len1 (av := av) (fun u hu => h u (List.mem_cons_of_mem _ hu))
    simp only [lg_sl, List.flatMap_cons, if_neg h2, List.length_append, List.length_cons, List.length_nil] at h3 ⊢
    omega
section TC
variable {α : Type} {p : Program} {l : Launch} {e : Env} {R : Room} {s : State} {m : MethodId} {args : Array Value} {below : List Frame} {meth : Method} {c : Code} {g : GG} {cs : CS} {ad : Nat → Nat} {w : List Sh} {A : Nat → Prop} {nL : Nat} {Q : α → State → Prop} {ex : Option α} {σ : Mem} {pc : Nat} {lv : List (Option Value)} {st st0 : List Value} {cc : ByteArray} {own : String}
theorem AA_sub {H : Heap} {locs : List Loc} (C : Cx p R s m args c cc nL own g cs ad w A) (hS : va_S A s.heap H locs) : ∀ q, AA ad w.length H.size q → A q := by
  intro q h
  rcases h with ⟨j, hj, rfl⟩ | h
  · exact C.2.2.1.2 j hj
  · exact C.2.2.2.1 q (Nat.le_trans hS.1 h)
theorem preW_of {H : Heap} {locs : List Loc} {U : State} (C : Cx p R s m args c cc nL own g cs ad w A) (hP : va_P g.1 vwCl (wd ad σ 0 w) H) (hS : va_S A s.heap H locs) (hU : U.heap = H) (hW : s.WarmedH U.vm) : PreW g cs ad w σ H.size U :=
  ⟨by rw [hU], by rw [hU]; exact hP, C.2.1.go hS hU hW (AA_sub C hS), C.2.2.1.1, fun _ _ => trivial⟩
theorem gwV {idx : Nat} {y : MethodName} {cd : Cond} {CC : String} {n : Nat} (hw : MWV y cd CC n) (hl : Cond.methodLink own idx y ∈ TB) : GoodIn TB (wsV own idx CC y (cd :: TB)) := by
  intro w h
  rcases List.mem_append.mp h with h | h
  · simp only [List.mem_cons, List.not_mem_nil, or_false] at h
    rcases h with rfl | rfl | rfl | rfl
    · exact ⟨hl, tb_good hl⟩
    · exact ⟨hw.2.1, tb_good hw.2.1⟩
    · exact ⟨hw.2.2.1, tb_good hw.2.2.1⟩
    · exact ⟨hw.2.2.2.1, tb_good hw.2.2.2.1⟩
  · exact goodTB hw.1 w h
theorem gwS {idx : Nat} {y : MethodName} {cd : Cond} {n : Nat} (hw : MWS y cd n) (hl : Cond.methodLink own idx y ∈ TB) : GoodIn TB (va_wsS own idx y (cd :: TB)) := by
  intro w h
  rcases List.mem_append.mp h with h | h
  · simp only [List.mem_cons, List.not_mem_nil, or_false] at h
    rcases h with rfl | rfl | rfl
    · exact ⟨hl, tb_good hl⟩
    · exact ⟨hw.2.1, tb_good hw.2.1⟩
    · exact ⟨hw.2.2.1, tb_good hw.2.2.1⟩
  · exact goodTB hw.1 w h
theorem tr_ite {cnd : Prop} [Decidable cnd] {X Y : Option α} (kx : cnd → Tr p l e R s m args below meth c g ad w A nL Q X σ pc lv st) (ky : ¬ cnd → Tr p l e R s m args below meth c g ad w A nL Q Y σ pc lv st) : Tr p l e R s m args below meth c g ad w A nL Q (if cnd then X else Y) σ pc lv st := by
  by_cases q : cnd
  · rw [if_pos q]; exact kx q
  · rw [if_neg q]; exact ky q
theorem tr_tin (C : Cx p R s m args c cc nL own g cs ad w A) {dflt lo hi : Int} {offs : Array Int} {len : Nat} {x k : Int32} {off : Int} {tgt : Nat} (hd : decode cc pc = .ok (.tableswitch dflt lo hi offs, len)) (hx : x = k) (h1 : ¬ k.toInt < lo) (h2 : ¬ hi < k.toInt) (ho : offs[(k.toInt - lo).toNat]? = some off) (ht : (pc : Int) + off = (tgt : Int)) (kk : Tr p l e R s m args below meth c g ad w A nL Q ex σ tgt lv st) : Tr p l e R s m args below meth c g ad w A nL Q ex σ pc lv (.int x :: st) := by
  subst hx
  exact fun r hr H locs ls hP hS hL => lv_tableIn C.1.1 C.1.2.1 hd h1 h2 ho ht (kk r hr H locs ls hP hS hL)
theorem tr_tout (C : Cx p R s m args c cc nL own g cs ad w A) {dflt lo hi : Int} {offs : Array Int} {len : Nat} {x : Int32} {tgt : Nat} (hd : decode cc pc = .ok (.tableswitch dflt lo hi offs, len)) (h : x.toInt < lo ∨ hi < x.toInt) (ht : (pc : Int) + dflt = (tgt : Int)) (kk : Tr p l e R s m args below meth c g ad w A nL Q ex σ tgt lv st) : Tr p l e R s m args below meth c g ad w A nL Q ex σ pc lv (.int x :: st) :=
  fun r hr H locs ls hP hS hL => lv_tableOut C.1.1 C.1.2.1 hd h ht (kk r hr H locs ls hP hS hL)
theorem tr_look (C : Cx p R s m args c cc nL own g cs ad w A) {dflt : Int} {ps : Array (Int × Int)} {len : Nat} {x : Int32} {off : Int} {tgt : Nat} (hd : decode cc pc = .ok (.lookupswitch dflt ps, len)) (hp : (ps.toList.zip (ps.toList.drop 1)).all (fun (a, next) => a.1 < next.1) = true) (ho : Op.lookupswitch.offset ps.toList dflt x.toInt = off) (ht : (pc : Int) + off = (tgt : Int)) (kk : Tr p l e R s m args below meth c g ad w A nL Q ex σ tgt lv st) : Tr p l e R s m args below meth c g ad w A nL Q ex σ pc lv (.int x :: st) :=
  fun r hr H locs ls hP hS hL => lv_lookup C.1.1 C.1.2.1 hd hp ho ht (kk r hr H locs ls hP hS hL)
theorem tr_st {σ' : Mem} {lv' : List (Option Value)} {st' : List Value} (h1 : σ = σ') (h2 : lv = lv') (h3 : st = st') (kk : Tr p l e R s m args below meth c g ad w A nL Q ex σ' pc lv' st') : Tr p l e R s m args below meth c g ad w A nL Q ex σ pc lv st := by
  subst h1; subst h2; subst h3; exact kk
theorem tr_sub {lv' : List (Option Value)} (h : ∀ (i : Nat) (v : Value), lv'[i]? = some (some v) → lv[i]? = some (some v)) (kk : Tr p l e R s m args below meth c g ad w A nL Q ex σ pc lv' st) : Tr p l e R s m args below meth c g ad w A nL Q ex σ pc lv st :=
  fun r hr H locs ls hP hS hL => kk r hr H locs ls hP hS ⟨hL.1, hL.2.1, fun i v hv => hL.2.2 i v (h i v hv)⟩
theorem tr_cVI (C : Cx p R s m args c cc nL own g cs ad w A) {y : MethodName} {bytes : ByteArray} {maxL idx n : Nat} {ret : Option FieldType} {rm : Room} {av : List Value} {jb ci : Nat} {ds : List ShF} {q : vw_C} {f : Option (Int32 × Mem)} {kont : Int32 → Mem → Option α} (hM : CtI l g cs ad w y (.code y bytes maxL ret) rm (.ref (ad jb) :: av) σ f) (hw : MWV y (.code y bytes maxL ret) q.1 n) (hl : Cond.methodLink own idx y ∈ TB) (hj : w[jb]? = some (.inl (ci, ds))) (hc : vwCl[ci]? = some q) (hrm : rm.cells = 0 ∧ rm.slots = 0) (hR : rm.frames + 1 ≤ R.frames ∧ 8 + (maxL + 11) + rm.locals ≤ R.locals) (hn : av.length = n) (hst : st0 = av.reverse ++ .ref (ad jb) :: st) (hcat : (st.map fun v => v.category).sum ≤ 8) (hd : decode cc pc = .ok (.invokevirtual idx, 3)) (kk : ∀ r σ1, f = some (r, σ1) → Tr p l e R s m args below meth c g ad w A nL Q (kont r σ1) (σ1) (pc + 3) (lv) (.int r :: st)) : Tr p l e R s m args below meth c g ad w A nL Q (bnd f kont) (σ) (pc) (lv) (st0) := by
  intro z hz H locs ls hP hS hL
  cases hf : f with
  | none => rw [hf] at hz; cases hz
  | some q1 =>
    rw [hf] at hz
    refine va_calli (va_runV (As := av) (rest := st) C.1 (hM _ hf H.size) (cwV n C.1.2.2.2.2 (gwV hw hl) rfl hrm.1 hrm.2 hw.2.2.2.2.2 hR) ⟨PreW.blind _, va_recv C.2.1.1 hP hc (wd_get0 hj), fun U hU hW => ⟨rfl, preW_of C hP hS hU hW⟩⟩ rfl hn hL.1 hst (lv_room hcat) hd ⟨Nat.zero_le _, Nat.zero_le _⟩) hS (fun q _ h => AA_sub C hS q h) (AA_sub C hS) (fun r1 u t H1 locs1 ht hvm hw1 hB hz1 hk1 hS1 => ?_)
    subst hw1
    exact kk q1.1 q1.2 hf z hz H1 locs1 ls (by rw [← ht]; exact hB) hS1 hL
theorem tr_cSI (C : Cx p R s m args c cc nL own g cs ad w A) {y : MethodName} {bytes : ByteArray} {maxL idx n : Nat} {ret : Option FieldType} {rm : Room} {av : List Value} {f : Option (Int32 × Mem)} {kont : Int32 → Mem → Option α} (hM : CtI l g cs ad w y (.code y bytes maxL ret) rm (av) σ f) (hw : MWS y (.code y bytes maxL ret) n) (hl : Cond.methodLink own idx y ∈ TB) (hrm : rm.cells = 0 ∧ rm.slots = 0) (hR : rm.frames + 1 ≤ R.frames ∧ 8 + (maxL + 11) + rm.locals ≤ R.locals) (hn : av.length = n) (hst : st0 = av.reverse ++ st) (hcat : (st.map fun v => v.category).sum ≤ 8) (hd : decode cc pc = .ok (.invokestatic idx, 3)) (kk : ∀ r σ1, f = some (r, σ1) → Tr p l e R s m args below meth c g ad w A nL Q (kont r σ1) (σ1) (pc + 3) (lv) (.int r :: st)) : Tr p l e R s m args below meth c g ad w A nL Q (bnd f kont) (σ) (pc) (lv) (st0) := by
  intro z hz H locs ls hP hS hL
  cases hf : f with
  | none => rw [hf] at hz; cases hz
  | some q1 =>
    rw [hf] at hz
    refine va_calli (va_runS (As := av) (rest := st) C.1 (hM _ hf H.size) (va_cwS n C.1.2.2.2.2 (gwS hw hl) rfl hrm.1 hrm.2 hw.2.2.2 hR) ⟨PreW.blind _, fun U hU hW => ⟨rfl, preW_of C hP hS hU hW⟩⟩ rfl hn hL.1 hst (lv_room hcat) hd ⟨Nat.zero_le _, Nat.zero_le _⟩) hS (fun q _ h => AA_sub C hS q h) (AA_sub C hS) (fun r1 u t H1 locs1 ht hvm hw1 hB hz1 hk1 hS1 => ?_)
    subst hw1
    exact kk q1.1 q1.2 hf z hz H1 locs1 ls (by rw [← ht]; exact hB) hS1 hL
theorem tr_cVIP (C : Cx p R s m args c cc nL own g cs ad w A) {y : MethodName} {bytes : ByteArray} {maxL idx n : Nat} {ret : Option FieldType} {rm : Room} {av : List Value} {jb ci : Nat} {ds : List ShF} {q : vw_C} {f : Option Int32} {kont : Int32 → Option α} (hM : CtI l g cs ad w y (.code y bytes maxL ret) rm (.ref (ad jb) :: av) σ (pur f σ)) (hw : MWV y (.code y bytes maxL ret) q.1 n) (hl : Cond.methodLink own idx y ∈ TB) (hj : w[jb]? = some (.inl (ci, ds))) (hc : vwCl[ci]? = some q) (hrm : rm.cells = 0 ∧ rm.slots = 0) (hR : rm.frames + 1 ≤ R.frames ∧ 8 + (maxL + 11) + rm.locals ≤ R.locals) (hn : av.length = n) (hst : st0 = av.reverse ++ .ref (ad jb) :: st) (hcat : (st.map fun v => v.category).sum ≤ 8) (hd : decode cc pc = .ok (.invokevirtual idx, 3)) (kk : ∀ r, f = some r → Tr p l e R s m args below meth c g ad w A nL Q (kont r) (σ) (pc + 3) (lv) (.int r :: st)) : Tr p l e R s m args below meth c g ad w A nL Q (bn1 f kont) (σ) (pc) (lv) (st0) := by
  intro z hz H locs ls hP hS hL
  cases hf : f with
  | none => rw [hf] at hz; cases hz
  | some q1 =>
    rw [hf] at hz
    refine va_calli (va_runV (As := av) (rest := st) C.1 (hM _ (by rw [hf]; rfl) H.size) (cwV n C.1.2.2.2.2 (gwV hw hl) rfl hrm.1 hrm.2 hw.2.2.2.2.2 hR) ⟨PreW.blind _, va_recv C.2.1.1 hP hc (wd_get0 hj), fun U hU hW => ⟨rfl, preW_of C hP hS hU hW⟩⟩ rfl hn hL.1 hst (lv_room hcat) hd ⟨Nat.zero_le _, Nat.zero_le _⟩) hS (fun q _ h => AA_sub C hS q h) (AA_sub C hS) (fun r1 u t H1 locs1 ht hvm hw1 hB hz1 hk1 hS1 => ?_)
    have e9 : r1 = q1 := hw1
    rw [e9]
    exact kk q1 hf z hz H1 locs1 ls (by rw [← ht]; exact hB) hS1 hL
theorem tr_cSIP (C : Cx p R s m args c cc nL own g cs ad w A) {y : MethodName} {bytes : ByteArray} {maxL idx n : Nat} {ret : Option FieldType} {rm : Room} {av : List Value} {f : Option Int32} {kont : Int32 → Option α} (hM : CtI l g cs ad w y (.code y bytes maxL ret) rm (av) σ (pur f σ)) (hw : MWS y (.code y bytes maxL ret) n) (hl : Cond.methodLink own idx y ∈ TB) (hrm : rm.cells = 0 ∧ rm.slots = 0) (hR : rm.frames + 1 ≤ R.frames ∧ 8 + (maxL + 11) + rm.locals ≤ R.locals) (hn : av.length = n) (hst : st0 = av.reverse ++ st) (hcat : (st.map fun v => v.category).sum ≤ 8) (hd : decode cc pc = .ok (.invokestatic idx, 3)) (kk : ∀ r, f = some r → Tr p l e R s m args below meth c g ad w A nL Q (kont r) (σ) (pc + 3) (lv) (.int r :: st)) : Tr p l e R s m args below meth c g ad w A nL Q (bn1 f kont) (σ) (pc) (lv) (st0) := by
  intro z hz H locs ls hP hS hL
  cases hf : f with
  | none => rw [hf] at hz; cases hz
  | some q1 =>
    rw [hf] at hz
    refine va_calli (va_runS (As := av) (rest := st) C.1 (hM _ (by rw [hf]; rfl) H.size) (va_cwS n C.1.2.2.2.2 (gwS hw hl) rfl hrm.1 hrm.2 hw.2.2.2 hR) ⟨PreW.blind _, fun U hU hW => ⟨rfl, preW_of C hP hS hU hW⟩⟩ rfl hn hL.1 hst (lv_room hcat) hd ⟨Nat.zero_le _, Nat.zero_le _⟩) hS (fun q _ h => AA_sub C hS q h) (AA_sub C hS) (fun r1 u t H1 locs1 ht hvm hw1 hB hz1 hk1 hS1 => ?_)
    have e9 : r1 = q1 := hw1
    rw [e9]
    exact kk q1 hf z hz H1 locs1 ls (by rw [← ht]; exact hB) hS1 hL
theorem tr_cNIP (C : Cx p R s m args c cc nL own g cs ad w A) {y : MethodName} {bytes : ByteArray} {maxL idx n : Nat} {ret : Option FieldType} {rm : Room} {av : List Value} {host : String} {f : Option Int32} {kont : Int32 → Option α} (hM : CtI l g cs ad w y (.code y bytes maxL ret) rm (av) σ (pur f σ)) (hw : MWS y (.code y bytes maxL ret) n) (hl : va_Nw (.methodLinkNest own idx y host) s) (hrm : rm.cells = 0 ∧ rm.slots = 0) (hR : rm.frames + 1 ≤ R.frames ∧ 8 + (maxL + 11) + rm.locals ≤ R.locals) (hn : av.length = n) (hst : st0 = av.reverse ++ st) (hcat : (st.map fun v => v.category).sum ≤ 8) (hd : decode cc pc = .ok (.invokestatic idx, 3)) (kk : ∀ r, f = some r → Tr p l e R s m args below meth c g ad w A nL Q (kont r) (σ) (pc + 3) (lv) (.int r :: st)) : Tr p l e R s m args below meth c g ad w A nL Q (bn1 f kont) (σ) (pc) (lv) (st0) := by
  intro z hz H locs ls hP hS hL
  cases hf : f with
  | none => rw [hf] at hz; cases hz
  | some q1 =>
    rw [hf] at hz
    refine va_calli (va_runSN (As := av) (rest := st) C.1 (hM _ (by rw [hf]; rfl) H.size) ⟨va_cnB n C.1.2.2.2.2 (goodTB hw.1) rfl hrm.1 hrm.2 hl (C.1.2.2.2.2 _ hw.2.2.1) hw.2.2.2 hR, C.1.2.2.2.2 _ hw.2.1, trivial⟩ ⟨PreW.blind _, fun U hU hW => ⟨rfl, preW_of C hP hS hU hW⟩⟩ rfl hn hL.1 hst (lv_room hcat) hd ⟨Nat.zero_le _, Nat.zero_le _⟩) hS (fun q _ h => AA_sub C hS q h) (AA_sub C hS) (fun r1 u t H1 locs1 ht hvm hw1 hB hz1 hk1 hS1 => ?_)
    have e9 : r1 = q1 := hw1
    rw [e9]
    exact kk q1 hf z hz H1 locs1 ls (by rw [← ht]; exact hB) hS1 hL
theorem tr_cVL (C : Cx p R s m args c cc nL own g cs ad w A) {y : MethodName} {bytes : ByteArray} {maxL idx n : Nat} {ret : Option FieldType} {rm : Room} {av : List Value} {jb ci : Nat} {ds : List ShF} {q : vw_C} {f : Option (Int64 × Mem)} {kont : Int64 → Mem → Option α} (hM : CtL l g cs ad w y (.code y bytes maxL ret) rm (.ref (ad jb) :: av) σ f) (hw : MWV y (.code y bytes maxL ret) q.1 n) (hl : Cond.methodLink own idx y ∈ TB) (hj : w[jb]? = some (.inl (ci, ds))) (hc : vwCl[ci]? = some q) (hrm : rm.cells = 0 ∧ rm.slots = 0) (hR : rm.frames + 1 ≤ R.frames ∧ 8 + (maxL + 11) + rm.locals ≤ R.locals) (hn : av.length = n) (hst : st0 = av.reverse ++ .ref (ad jb) :: st) (hcat : (st.map fun v => v.category).sum ≤ 8) (hd : decode cc pc = .ok (.invokevirtual idx, 3)) (kk : ∀ r σ1, f = some (r, σ1) → Tr p l e R s m args below meth c g ad w A nL Q (kont r σ1) (σ1) (pc + 3) (lv) (.long r :: st)) : Tr p l e R s m args below meth c g ad w A nL Q (bnd f kont) (σ) (pc) (lv) (st0) := by
  intro z hz H locs ls hP hS hL
  cases hf : f with
  | none => rw [hf] at hz; cases hz
  | some q1 =>
    rw [hf] at hz
    refine va_calll (va_runV (As := av) (rest := st) C.1 (hM _ hf H.size) (cwV n C.1.2.2.2.2 (gwV hw hl) rfl hrm.1 hrm.2 hw.2.2.2.2.2 hR) ⟨PreW.blind _, va_recv C.2.1.1 hP hc (wd_get0 hj), fun U hU hW => ⟨rfl, preW_of C hP hS hU hW⟩⟩ rfl hn hL.1 hst (lv_room hcat) hd ⟨Nat.zero_le _, Nat.zero_le _⟩) hS (fun q _ h => AA_sub C hS q h) (AA_sub C hS) (fun r1 u t H1 locs1 ht hvm hw1 hB hz1 hk1 hS1 => ?_)
    subst hw1
    exact kk q1.1 q1.2 hf z hz H1 locs1 ls (by rw [← ht]; exact hB) hS1 hL
theorem tr_cSL (C : Cx p R s m args c cc nL own g cs ad w A) {y : MethodName} {bytes : ByteArray} {maxL idx n : Nat} {ret : Option FieldType} {rm : Room} {av : List Value} {f : Option (Int64 × Mem)} {kont : Int64 → Mem → Option α} (hM : CtL l g cs ad w y (.code y bytes maxL ret) rm (av) σ f) (hw : MWS y (.code y bytes maxL ret) n) (hl : Cond.methodLink own idx y ∈ TB) (hrm : rm.cells = 0 ∧ rm.slots = 0) (hR : rm.frames + 1 ≤ R.frames ∧ 8 + (maxL + 11) + rm.locals ≤ R.locals) (hn : av.length = n) (hst : st0 = av.reverse ++ st) (hcat : (st.map fun v => v.category).sum ≤ 8) (hd : decode cc pc = .ok (.invokestatic idx, 3)) (kk : ∀ r σ1, f = some (r, σ1) → Tr p l e R s m args below meth c g ad w A nL Q (kont r σ1) (σ1) (pc + 3) (lv) (.long r :: st)) : Tr p l e R s m args below meth c g ad w A nL Q (bnd f kont) (σ) (pc) (lv) (st0) := by
  intro z hz H locs ls hP hS hL
  cases hf : f with
  | none => rw [hf] at hz; cases hz
  | some q1 =>
    rw [hf] at hz
    refine va_calll (va_runS (As := av) (rest := st) C.1 (hM _ hf H.size) (va_cwS n C.1.2.2.2.2 (gwS hw hl) rfl hrm.1 hrm.2 hw.2.2.2 hR) ⟨PreW.blind _, fun U hU hW => ⟨rfl, preW_of C hP hS hU hW⟩⟩ rfl hn hL.1 hst (lv_room hcat) hd ⟨Nat.zero_le _, Nat.zero_le _⟩) hS (fun q _ h => AA_sub C hS q h) (AA_sub C hS) (fun r1 u t H1 locs1 ht hvm hw1 hB hz1 hk1 hS1 => ?_)
    subst hw1
    exact kk q1.1 q1.2 hf z hz H1 locs1 ls (by rw [← ht]; exact hB) hS1 hL
theorem tr_cVLP (C : Cx p R s m args c cc nL own g cs ad w A) {y : MethodName} {bytes : ByteArray} {maxL idx n : Nat} {ret : Option FieldType} {rm : Room} {av : List Value} {jb ci : Nat} {ds : List ShF} {q : vw_C} {f : Option Int64} {kont : Int64 → Option α} (hM : CtL l g cs ad w y (.code y bytes maxL ret) rm (.ref (ad jb) :: av) σ (pur f σ)) (hw : MWV y (.code y bytes maxL ret) q.1 n) (hl : Cond.methodLink own idx y ∈ TB) (hj : w[jb]? = some (.inl (ci, ds))) (hc : vwCl[ci]? = some q) (hrm : rm.cells = 0 ∧ rm.slots = 0) (hR : rm.frames + 1 ≤ R.frames ∧ 8 + (maxL + 11) + rm.locals ≤ R.locals) (hn : av.length = n) (hst : st0 = av.reverse ++ .ref (ad jb) :: st) (hcat : (st.map fun v => v.category).sum ≤ 8) (hd : decode cc pc = .ok (.invokevirtual idx, 3)) (kk : ∀ r, f = some r → Tr p l e R s m args below meth c g ad w A nL Q (kont r) (σ) (pc + 3) (lv) (.long r :: st)) : Tr p l e R s m args below meth c g ad w A nL Q (bn1 f kont) (σ) (pc) (lv) (st0) := by
  intro z hz H locs ls hP hS hL
  cases hf : f with
  | none => rw [hf] at hz; cases hz
  | some q1 =>
    rw [hf] at hz
    refine va_calll (va_runV (As := av) (rest := st) C.1 (hM _ (by rw [hf]; rfl) H.size) (cwV n C.1.2.2.2.2 (gwV hw hl) rfl hrm.1 hrm.2 hw.2.2.2.2.2 hR) ⟨PreW.blind _, va_recv C.2.1.1 hP hc (wd_get0 hj), fun U hU hW => ⟨rfl, preW_of C hP hS hU hW⟩⟩ rfl hn hL.1 hst (lv_room hcat) hd ⟨Nat.zero_le _, Nat.zero_le _⟩) hS (fun q _ h => AA_sub C hS q h) (AA_sub C hS) (fun r1 u t H1 locs1 ht hvm hw1 hB hz1 hk1 hS1 => ?_)
    have e9 : r1 = q1 := hw1
    rw [e9]
    exact kk q1 hf z hz H1 locs1 ls (by rw [← ht]; exact hB) hS1 hL
theorem tr_cSLP (C : Cx p R s m args c cc nL own g cs ad w A) {y : MethodName} {bytes : ByteArray} {maxL idx n : Nat} {ret : Option FieldType} {rm : Room} {av : List Value} {f : Option Int64} {kont : Int64 → Option α} (hM : CtL l g cs ad w y (.code y bytes maxL ret) rm (av) σ (pur f σ)) (hw : MWS y (.code y bytes maxL ret) n) (hl : Cond.methodLink own idx y ∈ TB) (hrm : rm.cells = 0 ∧ rm.slots = 0) (hR : rm.frames + 1 ≤ R.frames ∧ 8 + (maxL + 11) + rm.locals ≤ R.locals) (hn : av.length = n) (hst : st0 = av.reverse ++ st) (hcat : (st.map fun v => v.category).sum ≤ 8) (hd : decode cc pc = .ok (.invokestatic idx, 3)) (kk : ∀ r, f = some r → Tr p l e R s m args below meth c g ad w A nL Q (kont r) (σ) (pc + 3) (lv) (.long r :: st)) : Tr p l e R s m args below meth c g ad w A nL Q (bn1 f kont) (σ) (pc) (lv) (st0) := by
  intro z hz H locs ls hP hS hL
  cases hf : f with
  | none => rw [hf] at hz; cases hz
  | some q1 =>
    rw [hf] at hz
    refine va_calll (va_runS (As := av) (rest := st) C.1 (hM _ (by rw [hf]; rfl) H.size) (va_cwS n C.1.2.2.2.2 (gwS hw hl) rfl hrm.1 hrm.2 hw.2.2.2 hR) ⟨PreW.blind _, fun U hU hW => ⟨rfl, preW_of C hP hS hU hW⟩⟩ rfl hn hL.1 hst (lv_room hcat) hd ⟨Nat.zero_le _, Nat.zero_le _⟩) hS (fun q _ h => AA_sub C hS q h) (AA_sub C hS) (fun r1 u t H1 locs1 ht hvm hw1 hB hz1 hk1 hS1 => ?_)
    have e9 : r1 = q1 := hw1
    rw [e9]
    exact kk q1 hf z hz H1 locs1 ls (by rw [← ht]; exact hB) hS1 hL
theorem tr_cVV (C : Cx p R s m args c cc nL own g cs ad w A) {y : MethodName} {bytes : ByteArray} {maxL idx n : Nat} {ret : Option FieldType} {rm : Room} {av : List Value} {jb ci : Nat} {ds : List ShF} {q : vw_C} {f : Option Mem} {kont : Mem → Option α} (hM : CtV l g cs ad w y (.code y bytes maxL ret) rm (.ref (ad jb) :: av) σ f) (hw : MWV y (.code y bytes maxL ret) q.1 n) (hl : Cond.methodLink own idx y ∈ TB) (hj : w[jb]? = some (.inl (ci, ds))) (hc : vwCl[ci]? = some q) (hrm : rm.cells = 0 ∧ rm.slots = 0) (hR : rm.frames + 1 ≤ R.frames ∧ 8 + (maxL + 11) + rm.locals ≤ R.locals) (hn : av.length = n) (hst : st0 = av.reverse ++ .ref (ad jb) :: st) (hcat : (st.map fun v => v.category).sum ≤ 8) (hd : decode cc pc = .ok (.invokevirtual idx, 3)) (kk : ∀ σ1, f = some σ1 → Tr p l e R s m args below meth c g ad w A nL Q (kont σ1) (σ1) (pc + 3) (lv) (st)) : Tr p l e R s m args below meth c g ad w A nL Q (bn1 f kont) (σ) (pc) (lv) (st0) := by
  intro z hz H locs ls hP hS hL
  cases hf : f with
  | none => rw [hf] at hz; cases hz
  | some q1 =>
    rw [hf] at hz
    refine va_callv (va_runV (As := av) (rest := st) C.1 (hM _ hf H.size) (cwV n C.1.2.2.2.2 (gwV hw hl) rfl hrm.1 hrm.2 hw.2.2.2.2.2 hR) ⟨PreW.blind _, va_recv C.2.1.1 hP hc (wd_get0 hj), fun U hU hW => ⟨rfl, preW_of C hP hS hU hW⟩⟩ rfl hn hL.1 hst (lv_room hcat) hd ⟨Nat.zero_le _, Nat.zero_le _⟩) hS (fun q _ h => AA_sub C hS q h) (AA_sub C hS) (fun u t H1 locs1 ht hvm hw1 hB hz1 hk1 hS1 => ?_)
    exact kk q1 hf z hz H1 locs1 ls (by rw [← ht]; exact hB) hS1 hL
theorem tr_cSV (C : Cx p R s m args c cc nL own g cs ad w A) {y : MethodName} {bytes : ByteArray} {maxL idx n : Nat} {ret : Option FieldType} {rm : Room} {av : List Value} {f : Option Mem} {kont : Mem → Option α} (hM : CtV l g cs ad w y (.code y bytes maxL ret) rm (av) σ f) (hw : MWS y (.code y bytes maxL ret) n) (hl : Cond.methodLink own idx y ∈ TB) (hrm : rm.cells = 0 ∧ rm.slots = 0) (hR : rm.frames + 1 ≤ R.frames ∧ 8 + (maxL + 11) + rm.locals ≤ R.locals) (hn : av.length = n) (hst : st0 = av.reverse ++ st) (hcat : (st.map fun v => v.category).sum ≤ 8) (hd : decode cc pc = .ok (.invokestatic idx, 3)) (kk : ∀ σ1, f = some σ1 → Tr p l e R s m args below meth c g ad w A nL Q (kont σ1) (σ1) (pc + 3) (lv) (st)) : Tr p l e R s m args below meth c g ad w A nL Q (bn1 f kont) (σ) (pc) (lv) (st0) := by
  intro z hz H locs ls hP hS hL
  cases hf : f with
  | none => rw [hf] at hz; cases hz
  | some q1 =>
    rw [hf] at hz
    refine va_callv (va_runS (As := av) (rest := st) C.1 (hM _ hf H.size) (va_cwS n C.1.2.2.2.2 (gwS hw hl) rfl hrm.1 hrm.2 hw.2.2.2 hR) ⟨PreW.blind _, fun U hU hW => ⟨rfl, preW_of C hP hS hU hW⟩⟩ rfl hn hL.1 hst (lv_room hcat) hd ⟨Nat.zero_le _, Nat.zero_le _⟩) hS (fun q _ h => AA_sub C hS q h) (AA_sub C hS) (fun u t H1 locs1 ht hvm hw1 hB hz1 hk1 hS1 => ?_)
    exact kk q1 hf z hz H1 locs1 ls (by rw [← ht]; exact hB) hS1 hL
theorem tr_cSVP (C : Cx p R s m args c cc nL own g cs ad w A) {y : MethodName} {bytes : ByteArray} {maxL idx n : Nat} {ret : Option FieldType} {rm : Room} {av : List Value} {f : Option Unit} {kont : Unit → Option α} (hM : CtV l g cs ad w y (.code y bytes maxL ret) rm av σ (pu0 f σ)) (hw : MWS y (.code y bytes maxL ret) n) (hl : Cond.methodLink own idx y ∈ TB) (hrm : rm.cells = 0 ∧ rm.slots = 0) (hR : rm.frames + 1 ≤ R.frames ∧ 8 + (maxL + 11) + rm.locals ≤ R.locals) (hn : av.length = n) (hst : st0 = av.reverse ++ st) (hcat : (st.map fun v => v.category).sum ≤ 8) (hd : decode cc pc = .ok (.invokestatic idx, 3)) (kk : ∀ r, f = some r → Tr p l e R s m args below meth c g ad w A nL Q (kont r) (σ) (pc + 3) (lv) (st)) : Tr p l e R s m args below meth c g ad w A nL Q (bn1 f kont) (σ) (pc) (lv) (st0) := by
  intro z hz H locs ls hP hS hL
  cases hf : f with
  | none => rw [hf] at hz; cases hz
  | some q1 =>
    rw [hf] at hz
    refine va_callv (va_runS (As := av) (rest := st) C.1 (hM _ (by rw [hf]; rfl) H.size) (va_cwS n C.1.2.2.2.2 (gwS hw hl) rfl hrm.1 hrm.2 hw.2.2.2 hR) ⟨PreW.blind _, fun U hU hW => ⟨rfl, preW_of C hP hS hU hW⟩⟩ rfl hn hL.1 hst (lv_room hcat) hd ⟨Nat.zero_le _, Nat.zero_le _⟩) hS (fun q _ h => AA_sub C hS q h) (AA_sub C hS) (fun u t H1 locs1 ht hvm hw1 hB hz1 hk1 hS1 => ?_)
    exact kk q1 hf z hz H1 locs1 ls (by rw [← ht]; exact hB) hS1 hL
theorem tr_vretP (C : Cx p R s m args c cc nL own g cs ad w A) (hr : meth.sig.returnType = none) (hlk : meth.locks = false) (hd : decode cc pc = .ok (.return_, 1)) : Tr p l e R s m args below meth c g ad w A nL (QU g ad w A below args s σ) (some ()) σ pc lv [] := fun r h H locs ls hP hS hL => by
  exact W.vret C.1.1 C.1.2.1 hr (fun t ht hW => ⟨⟨(), rfl, trivial, by have h9 := hP; rw [← ht] at h9; exact h9⟩, hS.F ht⟩) hS.2.2 hd hlk
theorem ev_Z (C : Cx p R s m args c cc nL own g cs ad w A) : ZS cs A s s.heap := C.2.1.2.2
theorem tr_ldcS (C : Cx p R s m args c cc nL "KinInTheHeap$Reader" g cs ad w A) {i : Nat} (hi : i < 13) (hd : decode cc pc = .ok (.ldc (strI i), 2)) (kk : Tr p l e R s m args below meth c g ad w A nL Q (ex) (σ) (pc + 2) (lv) (.ref (cs.2.1 i) :: st)) : Tr p l e R s m args below meth c g ad w A nL Q (ex) (σ) (pc) (lv) (st) :=
  fun r hr H locs ls hP hS hL => va_ldcS C.1.1 C.1.2.1 C.1.2.2.2.1 ((ev_Z C).2.2.2.2.2 i hi) hd (kk r hr H locs ls hP hS hL)
theorem tr_gABOVE (C : Cx p R s m args c cc nL own g cs ad w A) {idx : Nat} (hl : Cond.fieldLink own idx "KinInTheHeap" "ABOVE" "[I" ∈ TB) (hd : decode cc pc = .ok (.getstatic idx, 3)) (kk : Tr p l e R s m args below meth c g ad w A nL Q (ex) (σ) (pc + 3) (lv) (.ref cs.1 :: st)) : Tr p l e R s m args below meth c g ad w A nL Q (ex) (σ) (pc) (lv) (st) :=
  fun r hr H locs ls hP hS hL => va_gets C.1.1 C.1.2.1 (ev_Z C).1 hS C.1.2.2.2.1 (C.1.2.2.2.2 _ hl) (fun _ h => h) hd (kk r hr H locs ls hP hS hL)
theorem tr_aboveld (C : Cx p R s m args c cc nL own g cs ad w A) {i : Int32} (hd : decode cc pc = .ok (.iaload, 1)) (kk : vp_in i 6 → Tr p l e R s m args below meth c g ad w A nL Q (ex) (σ) (pc + 1) (lv) (.int (aboveV i.toNatClampNeg) :: st)) : Tr p l e R s m args below meth c g ad w A nL Q (gd (inB i 6) ex) (σ) (pc) (lv) (.int i :: .ref cs.1 :: st) := fun r hr H locs ls hP hS hL => by
  obtain ⟨h1, h2⟩ := gd_some hr
  have h3 := inB_iff.mp h1
  exact va_ti C.1.1 C.1.2.1 (ev_Z C).2.1 hS h3 rfl hd (kk h3 r h2 H locs ls hP hS hL)
theorem tr_gCS (C : Cx p R s m args c cc nL own g cs ad w A) {idx : Nat} (hl : Cond.fieldLink own idx "java/lang/String" "COMPACT_STRINGS" "Z" ∈ TB) (hd : decode cc pc = .ok (.getstatic idx, 3)) (kk : Tr p l e R s m args below meth c g ad w A nL Q (ex) (σ) (pc + 3) (lv) (.int 1 :: st)) : Tr p l e R s m args below meth c g ad w A nL Q (ex) (σ) (pc) (lv) (st) :=
  fun r hr H locs ls hP hS hL => va_gets C.1.1 C.1.2.1 (ev_Z C).2.2.1 hS C.1.2.2.2.1 (C.1.2.2.2.2 _ hl) (fun _ h => h) hd (kk r hr H locs ls hP hS hL)
theorem tr_gSIO (C : Cx p R s m args c cc nL own g cs ad w A) {idx : Nat} (hl : Cond.fieldLink own idx "jdk/internal/util/Preconditions" "SIOOBE_FORMATTER" "Ljava/util/function/BiFunction;" ∈ TB) (hd : decode cc pc = .ok (.getstatic idx, 3)) (kk : ∀ v : Value, v.category = 1 → Tr p l e R s m args below meth c g ad w A nL Q (ex) (σ) (pc + 3) (lv) (v :: st)) : Tr p l e R s m args below meth c g ad w A nL Q (ex) (σ) (pc) (lv) (st) :=
  fun r hr H locs ls hP hS hL => by
  obtain ⟨v, hc, hz⟩ := (ev_Z C).2.2.2.1
  exact va_gets C.1.1 C.1.2.1 hz hS C.1.2.2.2.1 (C.1.2.2.2.2 _ hl) (fun _ h => h) hd (kk v hc r hr H locs ls hP hS hL)
theorem tr_scoder (C : Cx p R s m args c cc nL own g cs ad w A) {i idx : Nat} (hi : i < 13) (hl : Cond.fieldLink own idx "java/lang/String" "coder" "B" ∈ TB) (hd : decode cc pc = .ok (.getfield idx, 3)) (kk : Tr p l e R s m args below meth c g ad w A nL Q (ex) (σ) (pc + 3) (lv) (.int 0 :: st)) : Tr p l e R s m args below meth c g ad w A nL Q (ex) (σ) (pc) (lv) (.ref (cs.2.1 i) :: st) :=
  fun r hr H locs ls hP hS hL => vk_getf C.1.1 C.1.2.1 ((ev_Z C).2.2.2.2.1.1 i hi).2.1 hS C.1.2.2.2.1 (C.1.2.2.2.2 _ hl) (fun _ h => h) hd (kk r hr H locs ls hP hS hL)
theorem tr_svalue (C : Cx p R s m args c cc nL own g cs ad w A) {i idx : Nat} (hi : i < 13) (hl : Cond.fieldLink own idx "java/lang/String" "value" "[B" ∈ TB) (hd : decode cc pc = .ok (.getfield idx, 3)) (kk : Tr p l e R s m args below meth c g ad w A nL Q (ex) (σ) (pc + 3) (lv) (.ref (cs.2.2 i) :: st)) : Tr p l e R s m args below meth c g ad w A nL Q (ex) (σ) (pc) (lv) (.ref (cs.2.1 i) :: st) :=
  fun r hr H locs ls hP hS hL => vk_getf C.1.1 C.1.2.1 ((ev_Z C).2.2.2.2.1.1 i hi).2.2.1 hS C.1.2.2.2.1 (C.1.2.2.2.2 _ hl) (fun _ h => h) hd (kk r hr H locs ls hP hS hL)
theorem tr_slen (C : Cx p R s m args c cc nL own g cs ad w A) {i : Nat} (hi : i < 13) (hd : decode cc pc = .ok (.arraylength, 1)) (kk : Tr p l e R s m args below meth c g ad w A nL Q (ex) (σ) (pc + 1) (lv) (.int (Int32.ofNat (strL.getD i 0)) :: st)) : Tr p l e R s m args below meth c g ad w A nL Q (ex) (σ) (pc) (lv) (.ref (cs.2.2 i) :: st) :=
  fun r hr H locs ls hP hS hL => va_tlen C.1.1 C.1.2.1 ((ev_Z C).2.2.2.2.1.1 i hi).2.2.2 hS rfl hd (kk r hr H locs ls hP hS hL)
theorem tr_sbald (C : Cx p R s m args c cc nL own g cs ad w A) {i : Nat} {x : Int32} (hi : i < 13) (hd : decode cc pc = .ok (.baload, 1)) (kk : vp_in x (strL.getD i 0) → Tr p l e R s m args below meth c g ad w A nL Q (ex) (σ) (pc + 1) (lv) (.int ((strB.getD i []).getD x.toNatClampNeg 0) :: st)) : Tr p l e R s m args below meth c g ad w A nL Q (gd (inB x (strL.getD i 0)) ex) (σ) (pc) (lv) (.int x :: .ref (cs.2.2 i) :: st) := fun r hr H locs ls hP hS hL => by
  obtain ⟨h1, h2⟩ := gd_some hr
  have h3 := inB_iff.mp h1
  exact va_tb C.1.1 C.1.2.1 ((ev_Z C).2.2.2.2.1.1 i hi).2.2.2 hS h3 rfl hd (kk h3 r h2 H locs ls hP hS hL)
theorem tr_cT (C : Cx p R s m args c cc nL own g cs ad w A) {y : MethodName} {bytes : ByteArray} {maxL idx n i : Nat} {ret : Option FieldType} {rm : Room} {av : List Value} {f : Option Int32} {kont : Int32 → Option α} (hi : i < 13) (hM : CtI l g cs ad w y (.code y bytes maxL ret) rm (.ref (cs.2.1 i) :: av) σ (pur f σ)) (hw : MWV y (.code y bytes maxL ret) "java/lang/String" n) (hl : Cond.methodLink own idx y ∈ TB) (hrm : rm.cells = 0 ∧ rm.slots = 0) (hR : rm.frames + 1 ≤ R.frames ∧ 8 + (maxL + 11) + rm.locals ≤ R.locals) (hn : av.length = n) (hst : st0 = av.reverse ++ .ref (cs.2.1 i) :: st) (hcat : (st.map fun v => v.category).sum ≤ 8) (hd : decode cc pc = .ok (.invokevirtual idx, 3)) (kk : ∀ r, f = some r → Tr p l e R s m args below meth c g ad w A nL Q (kont r) (σ) (pc + 3) (lv) (.int r :: st)) : Tr p l e R s m args below meth c g ad w A nL Q (bn1 f kont) (σ) (pc) (lv) (st0) := by
  intro z hz H locs ls hP hS hL
  cases hf : f with
  | none => rw [hf] at hz; cases hz
  | some q1 =>
    rw [hf] at hz
    refine va_calli (va_runV (As := av) (rest := st) C.1 (hM _ (by rw [hf]; rfl) H.size) (cwV n C.1.2.2.2.2 (gwV hw hl) rfl hrm.1 hrm.2 hw.2.2.2.2.2 hR) ⟨PreW.blind _, vk_recv (ev_Z C).2.2.2.2.1 hi hS, fun U hU hW => ⟨rfl, preW_of C hP hS hU hW⟩⟩ rfl hn hL.1 hst (lv_room hcat) hd ⟨Nat.zero_le _, Nat.zero_le _⟩) hS (fun q _ h => AA_sub C hS q h) (AA_sub C hS) (fun r1 u t H1 locs1 ht hvm hw1 hB hz1 hk1 hS1 => ?_)
    have e9 : r1 = q1 := hw1
    rw [e9]
    exact kk q1 hf z hz H1 locs1 ls (by rw [← ht]; exact hB) hS1 hL
theorem tr_cSS (C : Cx p R s m args c cc nL own g cs ad w A) {y : MethodName} {bytes : ByteArray} {maxL idx n : Nat} {ret : Option FieldType} {rm : Room} {av : List Value} {f : Option Nat} {kont : Nat → Option α} (hM : CtS l g cs ad w y (.code y bytes maxL ret) rm av σ f) (hw : MWS y (.code y bytes maxL ret) n) (hl : Cond.methodLink own idx y ∈ TB) (hrm : rm.cells = 0 ∧ rm.slots = 0) (hR : rm.frames + 1 ≤ R.frames ∧ 8 + (maxL + 11) + rm.locals ≤ R.locals) (hn : av.length = n) (hst : st0 = av.reverse ++ st) (hcat : (st.map fun v => v.category).sum ≤ 8) (hd : decode cc pc = .ok (.invokestatic idx, 3)) (kk : ∀ r, f = some r → Tr p l e R s m args below meth c g ad w A nL Q (kont r) (σ) (pc + 3) (lv) (.ref (cs.2.1 r) :: st)) : Tr p l e R s m args below meth c g ad w A nL Q (bn1 f kont) (σ) (pc) (lv) (st0) := by
  intro z hz H locs ls hP hS hL
  cases hf : f with
  | none => rw [hf] at hz; cases hz
  | some q1 =>
    rw [hf] at hz
    refine va_callr (va_runS (As := av) (rest := st) C.1 (hM _ hf H.size) (va_cwS n C.1.2.2.2.2 (gwS hw hl) rfl hrm.1 hrm.2 hw.2.2.2 hR) ⟨PreW.blind _, fun U hU hW => ⟨rfl, preW_of C hP hS hU hW⟩⟩ rfl hn hL.1 hst (lv_room hcat) hd ⟨Nat.zero_le _, Nat.zero_le _⟩) hS (fun q _ h => AA_sub C hS q h) (AA_sub C hS) (fun u ra t H1 locs1 ht hvm hw1 hB hz1 hk1 hS1 => ?_)
    obtain ⟨hB1, hB2⟩ := hB
    rw [hB1]
    exact kk q1 hf z hz H1 locs1 ls (by rw [← ht]; exact hB2) hS1 hL
theorem tr_retS (C : Cx p R s m args c cc nL own g cs ad w A) (hr : meth.sig.returnType = some (.object "java/lang/String")) (hlk : meth.locks = false) {i : Nat} (hd : decode cc pc = .ok (.areturn, 1)) : Tr p l e R s m args below meth c g ad w A nL (QS g cs ad w A below args s σ) (some i) σ pc lv [.ref (cs.2.1 i)] := fun r h H locs ls hP hS hL => by
  cases h
  exact W.aret (v := .ref (cs.2.1 i)) C.1.1 C.1.2.1 hr (Or.inl ⟨_, rfl⟩) (Or.inr ⟨_, rfl⟩) (fun t ht hW => ⟨⟨(), cs.2.1 i, rfl, trivial, rfl, by have h9 := hP; rw [← ht] at h9; exact h9⟩, hS.F ht⟩) hS.2.2 hd hlk
theorem tr_cret (C : Cx p R s m args c cc nL own g cs ad w A) (hr : meth.sig.returnType = some .char) (hlk : meth.locks = false) {v : Int32} (hd : decode cc pc = .ok (.ireturn, 1)) : Tr p l e R s m args below meth c g ad w A nL (QP g ad w A below args s σ) (gd (isC v) (some v)) σ pc lv [.int v] := fun r h H locs ls hP hS hL => by
  obtain ⟨h1, h2⟩ := gd_some h
  have hn := isC_nar h1
  cases h2
  exact W.zret C.1.1 C.1.2.1 hr hn (fun t ht hW => ⟨⟨v, (), rfl, rfl, by have h9 := hP; rw [← ht] at h9; exact h9⟩, hS.F ht⟩) hS.2.2 hd hlk
theorem tr_bret (C : Cx p R s m args c cc nL own g cs ad w A) (hr : meth.sig.returnType = some .byte) (hlk : meth.locks = false) {v : Int32} (hn : narrow .byte (.int v) = .int v) (hd : decode cc pc = .ok (.ireturn, 1)) : Tr p l e R s m args below meth c g ad w A nL (QP g ad w A below args s σ) (some v) σ pc lv [.int v] := fun r h H locs ls hP hS hL => by
  cases h
  exact W.zret C.1.1 C.1.2.1 hr hn (fun t ht hW => ⟨⟨v, (), rfl, rfl, by have h9 := hP; rw [← ht] at h9; exact h9⟩, hS.F ht⟩) hS.2.2 hd hlk
end TC
theorem ctI_intro {l : Launch} {g : GG} {cs : CS} {ad : Nat → Nat} {w : List Sh} {y : MethodName} {cc : ByteArray} {maxL : Nat} {ret : Option FieldType} {rm : Room} {av : List Value} {σ : Mem} {ex : Option (Int32 × Mem)} {own : String} (hy : plainFor y = true) (hcls : y.cls = own) (lv0 : List (Option Value)) (hlen : (lg_sl av).length ≤ maxL) (hlv : pz 0 lv0 = lv_args 0 av) (body : ∀ (p : Program) (e : Env) (s : State) (m : MethodId) (args : Array Value) (below : List Frame) (meth : Method) (c : Code) (A : Nat → Prop), Cx p rm s m args c cc maxL own g cs ad w A → meth.sig.returnType = ret → meth.locks = false → Tr p l e rm s m args below meth c g ad w A maxL (QI g ad w A below args s) ex σ 0 lv0 []) : CtI l g cs ad w y (.code y cc maxL ret) rm av σ ex := by
  intro r hr0 sz
  refine va_MetF (cc := cc) (maxL := maxL) (ret := ret) hy rfl ?_
  intro p e s m args below meth c s₁ B hml hv
  obtain ⟨rfl, hsz, hP, hE, hI⟩ := hv
  have hts : ∀ w ∈ TB, w.before av.toArray s = true := fun w hw => atoms_spec (ws := Cond.code y cc maxL ret :: TB) B.pre w (List.mem_cons_of_mem _ hw)
  have hown : s.vm.findClass y.cls = some m.cls := findClass_of_methodNamed B.named
  rw [hcls] at hown
  subst hsz
  have hl := lv_entry av (n := maxL) hlen
  rw [lg_entry_eq]
  generalize (lg_sl av ++ List.replicate (maxL - (lg_sl av).length) Slot.unset).toArray = ls at hl ⊢
  have hL : LH ls maxL lv0 := ⟨hl.1, hl.2.1, fun i v hi => by
    have h1 : (i, v) ∈ pz 0 lv0 := pz_mem.mpr ⟨i, (Nat.zero_add i).symm, hi⟩
    rw [hlv] at h1
    exact hl.2.2 (i, v) h1⟩
  exact body p e s m av.toArray below meth c (AA ad w.length s.heap.size) ⟨⟨B.exec, B.bytes, hml, hown, hts⟩, hE, adOk_self hI, fun q h => Or.inr h, Nat.le_add_left 1 _⟩ B.returns B.notSynchronized r hr0 s.heap [] ls hP va_S.rf hL
theorem ctL_intro {l : Launch} {g : GG} {cs : CS} {ad : Nat → Nat} {w : List Sh} {y : MethodName} {cc : ByteArray} {maxL : Nat} {ret : Option FieldType} {rm : Room} {av : List Value} {σ : Mem} {ex : Option (Int64 × Mem)} {own : String} (hy : plainFor y = true) (hcls : y.cls = own) (lv0 : List (Option Value)) (hlen : (lg_sl av).length ≤ maxL) (hlv : pz 0 lv0 = lv_args 0 av) (body : ∀ (p : Program) (e : Env) (s : State) (m : MethodId) (args : Array Value) (below : List Frame) (meth : Method) (c : Code) (A : Nat → Prop), Cx p rm s m args c cc maxL own g cs ad w A → meth.sig.returnType = ret → meth.locks = false → Tr p l e rm s m args below meth c g ad w A maxL (QL g ad w A below args s) ex σ 0 lv0 []) : CtL l g cs ad w y (.code y cc maxL ret) rm av σ ex := by
  intro r hr0 sz
  refine va_MetF (cc := cc) (maxL := maxL) (ret := ret) hy rfl ?_
  intro p e s m args below meth c s₁ B hml hv
  obtain ⟨rfl, hsz, hP, hE, hI⟩ := hv
  have hts : ∀ w ∈ TB, w.before av.toArray s = true := fun w hw => atoms_spec (ws := Cond.code y cc maxL ret :: TB) B.pre w (List.mem_cons_of_mem _ hw)
  have hown : s.vm.findClass y.cls = some m.cls := findClass_of_methodNamed B.named
  rw [hcls] at hown
  subst hsz
  have hl := lv_entry av (n := maxL) hlen
  rw [lg_entry_eq]
  generalize (lg_sl av ++ List.replicate (maxL - (lg_sl av).length) Slot.unset).toArray = ls at hl ⊢
  have hL : LH ls maxL lv0 := ⟨hl.1, hl.2.1, fun i v hi => by
    have h1 : (i, v) ∈ pz 0 lv0 := pz_mem.mpr ⟨i, (Nat.zero_add i).symm, hi⟩
    rw [hlv] at h1
    exact hl.2.2 (i, v) h1⟩
  exact body p e s m av.toArray below meth c (AA ad w.length s.heap.size) ⟨⟨B.exec, B.bytes, hml, hown, hts⟩, hE, adOk_self hI, fun q h => Or.inr h, Nat.le_add_left 1 _⟩ B.returns B.notSynchronized r hr0 s.heap [] ls hP va_S.rf hL
theorem ctV_intro {l : Launch} {g : GG} {cs : CS} {ad : Nat → Nat} {w : List Sh} {y : MethodName} {cc : ByteArray} {maxL : Nat} {ret : Option FieldType} {rm : Room} {av : List Value} {σ : Mem} {ex : Option (Mem)} {own : String} (hy : plainFor y = true) (hcls : y.cls = own) (lv0 : List (Option Value)) (hlen : (lg_sl av).length ≤ maxL) (hlv : pz 0 lv0 = lv_args 0 av) (body : ∀ (p : Program) (e : Env) (s : State) (m : MethodId) (args : Array Value) (below : List Frame) (meth : Method) (c : Code) (A : Nat → Prop), Cx p rm s m args c cc maxL own g cs ad w A → meth.sig.returnType = ret → meth.locks = false → Tr p l e rm s m args below meth c g ad w A maxL (QV g ad w A below args s) ex σ 0 lv0 []) : CtV l g cs ad w y (.code y cc maxL ret) rm av σ ex := by
  intro r hr0 sz
  refine va_MetF (cc := cc) (maxL := maxL) (ret := ret) hy rfl ?_
  intro p e s m args below meth c s₁ B hml hv
  obtain ⟨rfl, hsz, hP, hE, hI⟩ := hv
  have hts : ∀ w ∈ TB, w.before av.toArray s = true := fun w hw => atoms_spec (ws := Cond.code y cc maxL ret :: TB) B.pre w (List.mem_cons_of_mem _ hw)
  have hown : s.vm.findClass y.cls = some m.cls := findClass_of_methodNamed B.named
  rw [hcls] at hown
  subst hsz
  have hl := lv_entry av (n := maxL) hlen
  rw [lg_entry_eq]
  generalize (lg_sl av ++ List.replicate (maxL - (lg_sl av).length) Slot.unset).toArray = ls at hl ⊢
  have hL : LH ls maxL lv0 := ⟨hl.1, hl.2.1, fun i v hi => by
    have h1 : (i, v) ∈ pz 0 lv0 := pz_mem.mpr ⟨i, (Nat.zero_add i).symm, hi⟩
    rw [hlv] at h1
    exact hl.2.2 (i, v) h1⟩
  exact body p e s m av.toArray below meth c (AA ad w.length s.heap.size) ⟨⟨B.exec, B.bytes, hml, hown, hts⟩, hE, adOk_self hI, fun q h => Or.inr h, Nat.le_add_left 1 _⟩ B.returns B.notSynchronized r hr0 s.heap [] ls hP va_S.rf hL
theorem ctIP_intro {l : Launch} {g : GG} {cs : CS} {ad : Nat → Nat} {w : List Sh} {y : MethodName} {cc : ByteArray} {maxL : Nat} {ret : Option FieldType} {rm : Room} {av : List Value} {σ : Mem} {ex : Option (Int32)} {own : String} (hy : plainFor y = true) (hcls : y.cls = own) (lv0 : List (Option Value)) (hlen : (lg_sl av).length ≤ maxL) (hlv : pz 0 lv0 = lv_args 0 av) (body : ∀ (p : Program) (e : Env) (s : State) (m : MethodId) (args : Array Value) (below : List Frame) (meth : Method) (c : Code) (A : Nat → Prop), Cx p rm s m args c cc maxL own g cs ad w A → meth.sig.returnType = ret → meth.locks = false → Tr p l e rm s m args below meth c g ad w A maxL (QP g ad w A below args s σ) ex σ 0 lv0 []) : CtI l g cs ad w y (.code y cc maxL ret) rm av σ (pur ex σ) := by
  intro r hr0 sz
  refine va_MetF (cc := cc) (maxL := maxL) (ret := ret) hy rfl ?_
  intro p e s m args below meth c s₁ B hml hv
  obtain ⟨rfl, hsz, hP, hE, hI⟩ := hv
  have hts : ∀ w ∈ TB, w.before av.toArray s = true := fun w hw => atoms_spec (ws := Cond.code y cc maxL ret :: TB) B.pre w (List.mem_cons_of_mem _ hw)
  have hown : s.vm.findClass y.cls = some m.cls := findClass_of_methodNamed B.named
  rw [hcls] at hown
  subst hsz
  have hl := lv_entry av (n := maxL) hlen
  rw [lg_entry_eq]
  generalize (lg_sl av ++ List.replicate (maxL - (lg_sl av).length) Slot.unset).toArray = ls at hl ⊢
  have hL : LH ls maxL lv0 := ⟨hl.1, hl.2.1, fun i v hi => by
    have h1 : (i, v) ∈ pz 0 lv0 := pz_mem.mpr ⟨i, (Nat.zero_add i).symm, hi⟩
    rw [hlv] at h1
    exact hl.2.2 (i, v) h1⟩
  cases hex : ex with
  | none => rw [hex] at hr0; cases hr0
  | some r0 =>
    rw [hex] at hr0
    cases hr0
    exact body p e s m av.toArray below meth c (AA ad w.length s.heap.size) ⟨⟨B.exec, B.bytes, hml, hown, hts⟩, hE, adOk_self hI, fun q h => Or.inr h, Nat.le_add_left 1 _⟩ B.returns B.notSynchronized r0 hex s.heap [] ls hP va_S.rf hL
theorem ctLP_intro {l : Launch} {g : GG} {cs : CS} {ad : Nat → Nat} {w : List Sh} {y : MethodName} {cc : ByteArray} {maxL : Nat} {ret : Option FieldType} {rm : Room} {av : List Value} {σ : Mem} {ex : Option (Int64)} {own : String} (hy : plainFor y = true) (hcls : y.cls = own) (lv0 : List (Option Value)) (hlen : (lg_sl av).length ≤ maxL) (hlv : pz 0 lv0 = lv_args 0 av) (body : ∀ (p : Program) (e : Env) (s : State) (m : MethodId) (args : Array Value) (below : List Frame) (meth : Method) (c : Code) (A : Nat → Prop), Cx p rm s m args c cc maxL own g cs ad w A → meth.sig.returnType = ret → meth.locks = false → Tr p l e rm s m args below meth c g ad w A maxL (QPL g ad w A below args s σ) ex σ 0 lv0 []) : CtL l g cs ad w y (.code y cc maxL ret) rm av σ (pur ex σ) := by
  intro r hr0 sz
  refine va_MetF (cc := cc) (maxL := maxL) (ret := ret) hy rfl ?_
  intro p e s m args below meth c s₁ B hml hv
  obtain ⟨rfl, hsz, hP, hE, hI⟩ := hv
  have hts : ∀ w ∈ TB, w.before av.toArray s = true := fun w hw => atoms_spec (ws := Cond.code y cc maxL ret :: TB) B.pre w (List.mem_cons_of_mem _ hw)
  have hown : s.vm.findClass y.cls = some m.cls := findClass_of_methodNamed B.named
  rw [hcls] at hown
  subst hsz
  have hl := lv_entry av (n := maxL) hlen
  rw [lg_entry_eq]
  generalize (lg_sl av ++ List.replicate (maxL - (lg_sl av).length) Slot.unset).toArray = ls at hl ⊢
  have hL : LH ls maxL lv0 := ⟨hl.1, hl.2.1, fun i v hi => by
    have h1 : (i, v) ∈ pz 0 lv0 := pz_mem.mpr ⟨i, (Nat.zero_add i).symm, hi⟩
    rw [hlv] at h1
    exact hl.2.2 (i, v) h1⟩
  cases hex : ex with
  | none => rw [hex] at hr0; cases hr0
  | some r0 =>
    rw [hex] at hr0
    cases hr0
    exact body p e s m av.toArray below meth c (AA ad w.length s.heap.size) ⟨⟨B.exec, B.bytes, hml, hown, hts⟩, hE, adOk_self hI, fun q h => Or.inr h, Nat.le_add_left 1 _⟩ B.returns B.notSynchronized r0 hex s.heap [] ls hP va_S.rf hL
theorem ctS_intro {l : Launch} {g : GG} {cs : CS} {ad : Nat → Nat} {w : List Sh} {y : MethodName} {cc : ByteArray} {maxL : Nat} {ret : Option FieldType} {rm : Room} {av : List Value} {σ : Mem} {ex : Option (Nat)} {own : String} (hy : plainFor y = true) (hcls : y.cls = own) (lv0 : List (Option Value)) (hlen : (lg_sl av).length ≤ maxL) (hlv : pz 0 lv0 = lv_args 0 av) (body : ∀ (p : Program) (e : Env) (s : State) (m : MethodId) (args : Array Value) (below : List Frame) (meth : Method) (c : Code) (A : Nat → Prop), Cx p rm s m args c cc maxL own g cs ad w A → meth.sig.returnType = ret → meth.locks = false → Tr p l e rm s m args below meth c g ad w A maxL (QS g cs ad w A below args s σ) ex σ 0 lv0 []) : CtS l g cs ad w y (.code y cc maxL ret) rm av σ ex := by
  intro r hr0 sz
  refine va_MetF (cc := cc) (maxL := maxL) (ret := ret) hy rfl ?_
  intro p e s m args below meth c s₁ B hml hv
  obtain ⟨rfl, hsz, hP, hE, hI⟩ := hv
  have hts : ∀ w ∈ TB, w.before av.toArray s = true := fun w hw => atoms_spec (ws := Cond.code y cc maxL ret :: TB) B.pre w (List.mem_cons_of_mem _ hw)
  have hown : s.vm.findClass y.cls = some m.cls := findClass_of_methodNamed B.named
  rw [hcls] at hown
  subst hsz
  have hl := lv_entry av (n := maxL) hlen
  rw [lg_entry_eq]
  generalize (lg_sl av ++ List.replicate (maxL - (lg_sl av).length) Slot.unset).toArray = ls at hl ⊢
  have hL : LH ls maxL lv0 := ⟨hl.1, hl.2.1, fun i v hi => by
    have h1 : (i, v) ∈ pz 0 lv0 := pz_mem.mpr ⟨i, (Nat.zero_add i).symm, hi⟩
    rw [hlv] at h1
    exact hl.2.2 (i, v) h1⟩
  exact body p e s m av.toArray below meth c (AA ad w.length s.heap.size) ⟨⟨B.exec, B.bytes, hml, hown, hts⟩, hE, adOk_self hI, fun q h => Or.inr h, Nat.le_add_left 1 _⟩ B.returns B.notSynchronized r hr0 s.heap [] ls hP va_S.rf hL
theorem ctU_intro {l : Launch} {g : GG} {cs : CS} {ad : Nat → Nat} {w : List Sh} {y : MethodName} {cc : ByteArray} {maxL : Nat} {ret : Option FieldType} {rm : Room} {av : List Value} {σ : Mem} {ex : Option (Unit)} {own : String} (hy : plainFor y = true) (hcls : y.cls = own) (lv0 : List (Option Value)) (hlen : (lg_sl av).length ≤ maxL) (hlv : pz 0 lv0 = lv_args 0 av) (body : ∀ (p : Program) (e : Env) (s : State) (m : MethodId) (args : Array Value) (below : List Frame) (meth : Method) (c : Code) (A : Nat → Prop), Cx p rm s m args c cc maxL own g cs ad w A → meth.sig.returnType = ret → meth.locks = false → Tr p l e rm s m args below meth c g ad w A maxL (QU g ad w A below args s σ) ex σ 0 lv0 []) : CtV l g cs ad w y (.code y cc maxL ret) rm av σ (pu0 ex σ) := by
  intro r hr0 sz
  refine va_MetF (cc := cc) (maxL := maxL) (ret := ret) hy rfl ?_
  intro p e s m args below meth c s₁ B hml hv
  obtain ⟨rfl, hsz, hP, hE, hI⟩ := hv
  have hts : ∀ w ∈ TB, w.before av.toArray s = true := fun w hw => atoms_spec (ws := Cond.code y cc maxL ret :: TB) B.pre w (List.mem_cons_of_mem _ hw)
  have hown : s.vm.findClass y.cls = some m.cls := findClass_of_methodNamed B.named
  rw [hcls] at hown
  subst hsz
  have hl := lv_entry av (n := maxL) hlen
  rw [lg_entry_eq]
  generalize (lg_sl av ++ List.replicate (maxL - (lg_sl av).length) Slot.unset).toArray = ls at hl ⊢
  have hL : LH ls maxL lv0 := ⟨hl.1, hl.2.1, fun i v hi => by
    have h1 : (i, v) ∈ pz 0 lv0 := pz_mem.mpr ⟨i, (Nat.zero_add i).symm, hi⟩
    rw [hlv] at h1
    exact hl.2.2 (i, v) h1⟩
  cases hex : ex with
  | none => rw [hex] at hr0; cases hr0
  | some r0 =>
    rw [hex] at hr0
    cases hr0
    exact body p e s m av.toArray below meth c (AA ad w.length s.heap.size) ⟨⟨B.exec, B.bytes, hml, hown, hts⟩, hE, adOk_self hI, fun q h => Or.inr h, Nat.le_add_left 1 _⟩ B.returns B.notSynchronized r0 hex s.heap [] ls hP va_S.rf hL
def flD (b : Nat) : List ShF := [.inl (some (b + 1)), .inl (some (b + 2)), .inl (some (b + 3)), .inr true, .inr false, .inr false, .inr false, .inr false, .inl (some (1)), .inl (some (b + 4)), .inl (some (b + 5))]
def rdD : List ShF := [.inr false, .inl (some (4)), .inl (some (5)), .inl (some (6)), .inl (some (7)), .inr false, .inr false, .inr false, .inr false]
def shD (b : Nat) : List ShF := [.inl (some (b + 1)), .inr false, .inr false]
def txD (b : Nat) : List ShF := [.inl (some (b + 1)), .inl (some (b + 2)), .inl (some (b + 3)), .inr false, .inr false]
def mnD : List ShF := [.inl (some (1)), .inl (some (2)), .inl (some (3)), .inl (some (40)), .inl (some (46)), .inl (some (52)), .inl (some (58)), .inr false, .inr false]
def shC (g : GG) : List Sh := [.inl (4, mnD), .inr ((g.2 2, 6), some (fun i => some (8 + 4 * i))), .inr ((g.2 3, 4), some (fun i => some (32 + 2 * i))), .inl (1, rdD), .inr ((g.2 0, 160), none), .inr ((g.2 0, 161), none), .inr ((g.2 0, 161), none), .inr ((g.2 0, 160), none), .inl (3, txD 8), .inr ((g.2 0, 160), none), .inr ((g.2 0, 3), none), .inr ((g.2 0, 161), none), .inl (3, txD 12), .inr ((g.2 0, 160), none), .inr ((g.2 0, 3), none), .inr ((g.2 0, 161), none), .inl (3, txD 16), .inr ((g.2 0, 160), none), .inr ((g.2 0, 3), none), .inr ((g.2 0, 161), none), .inl (3, txD 20), .inr ((g.2 0, 160), none), .inr ((g.2 0, 3), none), .inr ((g.2 0, 161), none), .inl (3, txD 24), .inr ((g.2 0, 160), none), .inr ((g.2 0, 3), none), .inr ((g.2 0, 161), none), .inl (3, txD 28), .inr ((g.2 0, 160), none), .inr ((g.2 0, 3), none), .inr ((g.2 0, 161), none), .inl (2, shD 32), .inr ((g.2 0, 40), none), .inl (2, shD 34), .inr ((g.2 0, 40), none), .inl (2, shD 36), .inr ((g.2 0, 40), none), .inl (2, shD 38), .inr ((g.2 0, 40), none), .inl (0, flD 40), .inr ((g.2 0, 8), none), .inr ((g.2 0, 8), none), .inr ((g.2 0, 8), none), .inr ((g.2 0, 8), none), .inr ((g.2 0, 6), none), .inl (0, flD 46), .inr ((g.2 0, 8), none), .inr ((g.2 0, 8), none), .inr ((g.2 0, 8), none), .inr ((g.2 0, 8), none), .inr ((g.2 0, 6), none), .inl (0, flD 52), .inr ((g.2 0, 8), none), .inr ((g.2 0, 8), none), .inr ((g.2 0, 8), none), .inr ((g.2 0, 8), none), .inr ((g.2 0, 6), none), .inl (0, flD 58), .inr ((g.2 0, 8), none), .inr ((g.2 0, 8), none), .inr ((g.2 0, 8), none), .inr ((g.2 0, 8), none), .inr ((g.2 0, 6), none)]
def moD : List ShF := [.inr false, .inl (some (1)), .inl (some (2)), .inr false, .inr false, .inl (some (3)), .inr false, .inr false, .inr false, .inl (some (4)), .inl (some (5)), .inl (some (6)), .inl (some (7)), .inr false, .inr false, .inr false, .inr false, .inr false, .inr false, .inr false, .inr false, .inr false, .inr false, .inr false, .inr false, .inr true, .inr false, .inr false, .inr false, .inl (some (8)), .inl (some (9)), .inr false, .inl (some (10)), .inl (some (11)), .inl (some (12)), .inr false, .inr false, .inr false, .inr false, .inl (some (13)), .inl (some (14)), .inl (some (15)), .inl (some (16))]
def shM (g : GG) : List Sh := [.inl (5, moD), .inr ((g.2 0, 960), none), .inr ((g.2 0, 6), none), .inr ((g.2 0, 160), none), .inr ((g.2 0, 36), none), .inr ((g.2 0, 8), none), .inr ((g.2 0, 8), none), .inr ((g.2 0, 8), none), .inr ((g.2 0, 8), none), .inr ((g.2 0, 8), none), .inr ((g.2 0, 36), none), .inr ((g.2 0, 8), none), .inr ((g.2 0, 8), none), .inr ((g.2 1, 4), none), .inr ((g.2 0, 4), none), .inr ((g.2 0, 4), none), .inr ((g.2 0, 160), none)]
def isFl (b : Nat) : Prop := b = 40 ∨ b = 46 ∨ b = 52 ∨ b = 58
def isTx (b : Nat) : Prop := ∃ k, k < 6 ∧ b = 8 + 4 * k
def isSt (b : Nat) : Prop := ∃ k, k < 4 ∧ b = 32 + 2 * k
def isFa (b : Nat) : Prop := ∃ k, isFl k ∧ b = k + 5
theorem fl40 : isFl 40 := Or.inl rfl
theorem fl46 : isFl 46 := Or.inr (Or.inl rfl)
theorem fl52 : isFl 52 := Or.inr (Or.inr (Or.inl rfl))
theorem fl58 : isFl 58 := Or.inr (Or.inr (Or.inr rfl))
theorem isTx_of {k : Nat} (h : k < 6) : isTx (8 + 4 * k) := ⟨k, h, rfl⟩
theorem isSt_of {k : Nat} (h : k < 4) : isSt (32 + 2 * k) := ⟨k, h, rfl⟩
theorem isFa_of {k : Nat} (h : isFl k) : isFa (k + 5) := ⟨k, h, rfl⟩
theorem fl_0 {g : GG} {b : Nat} (h : isFl b) : (shC g)[b]? = some (.inl (0, flD b)) := by rcases h with rfl | rfl | rfl | rfl <;> rfl
theorem fl_1 {g : GG} {b : Nat} (h : isFl b) : (shC g)[b + 1]? = some (.inr ((g.2 0, 8), none)) := by rcases h with rfl | rfl | rfl | rfl <;> rfl
theorem fl_2 {g : GG} {b : Nat} (h : isFl b) : (shC g)[b + 2]? = some (.inr ((g.2 0, 8), none)) := by rcases h with rfl | rfl | rfl | rfl <;> rfl
theorem fl_3 {g : GG} {b : Nat} (h : isFl b) : (shC g)[b + 3]? = some (.inr ((g.2 0, 8), none)) := by rcases h with rfl | rfl | rfl | rfl <;> rfl
theorem fl_4 {g : GG} {b : Nat} (h : isFl b) : (shC g)[b + 4]? = some (.inr ((g.2 0, 8), none)) := by rcases h with rfl | rfl | rfl | rfl <;> rfl
theorem fl_5 {g : GG} {b : Nat} (h : isFl b) : (shC g)[b + 5]? = some (.inr ((g.2 0, 6), none)) := by rcases h with rfl | rfl | rfl | rfl <;> rfl
theorem fa_0 {g : GG} {b : Nat} (h : isFa b) : (shC g)[b]? = some (.inr ((g.2 0, 6), none)) := by
  obtain ⟨k, hk, rfl⟩ := h
  exact fl_5 hk
theorem k6 {P : Nat → Prop} (h0 : P 0) (h1 : P 1) (h2 : P 2) (h3 : P 3) (h4 : P 4) (h5 : P 5) (k : Nat) (h : k < 6) : P k := by
  match k, h with
  | 0, _ => exact h0
  | 1, _ => exact h1
  | 2, _ => exact h2
  | 3, _ => exact h3
  | 4, _ => exact h4
  | 5, _ => exact h5
theorem k4 {P : Nat → Prop} (h0 : P 0) (h1 : P 1) (h2 : P 2) (h3 : P 3) (k : Nat) (h : k < 4) : P k := by
  match k, h with
  | 0, _ => exact h0
  | 1, _ => exact h1
  | 2, _ => exact h2
  | 3, _ => exact h3
theorem tx_0 {g : GG} {b : Nat} (h : isTx b) : (shC g)[b]? = some (.inl (3, txD b)) := by
  obtain ⟨k, hk, rfl⟩ := h
  exact k6 (P := fun k => (shC g)[8 + 4 * k]? = some (.inl (3, txD (8 + 4 * k)))) rfl rfl rfl rfl rfl rfl k hk
theorem tx_1 {g : GG} {b : Nat} (h : isTx b) : (shC g)[b + 1]? = some (.inr ((g.2 0, 160), none)) := by
  obtain ⟨k, hk, rfl⟩ := h
  exact k6 (P := fun k => (shC g)[8 + 4 * k + 1]? = some (.inr ((g.2 0, 160), none))) rfl rfl rfl rfl rfl rfl k hk
theorem tx_2 {g : GG} {b : Nat} (h : isTx b) : (shC g)[b + 2]? = some (.inr ((g.2 0, 3), none)) := by
  obtain ⟨k, hk, rfl⟩ := h
  exact k6 (P := fun k => (shC g)[8 + 4 * k + 2]? = some (.inr ((g.2 0, 3), none))) rfl rfl rfl rfl rfl rfl k hk
theorem tx_3 {g : GG} {b : Nat} (h : isTx b) : (shC g)[b + 3]? = some (.inr ((g.2 0, 161), none)) := by
  obtain ⟨k, hk, rfl⟩ := h
  exact k6 (P := fun k => (shC g)[8 + 4 * k + 3]? = some (.inr ((g.2 0, 161), none))) rfl rfl rfl rfl rfl rfl k hk
theorem st_0 {g : GG} {b : Nat} (h : isSt b) : (shC g)[b]? = some (.inl (2, shD b)) := by
  obtain ⟨k, hk, rfl⟩ := h
  exact k4 (P := fun k => (shC g)[32 + 2 * k]? = some (.inl (2, shD (32 + 2 * k)))) rfl rfl rfl rfl k hk
theorem st_1 {g : GG} {b : Nat} (h : isSt b) : (shC g)[b + 1]? = some (.inr ((g.2 0, 40), none)) := by
  obtain ⟨k, hk, rfl⟩ := h
  exact k4 (P := fun k => (shC g)[32 + 2 * k + 1]? = some (.inr ((g.2 0, 40), none))) rfl rfl rfl rfl k hk
