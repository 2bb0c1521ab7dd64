theorem w_obj : Cond.instanceMethod Lib.objectInit ∈ TB ∧ Cond.code Lib.objectInit ⟨#[0xb1]⟩ 1 none ∈ TB := ⟨w119, w120⟩
theorem w_arI : Cond.arrayClass (newarray.typeOf .int) ∈ TB := w160
theorem w_arZ : Cond.arrayClass (newarray.typeOf .boolean) ∈ TB := w1078
/-! ===== making: worlds that grow ===== -/
theorem joinMid {A0 : Nat → Prop} {D : va_G} {cl : List vw_C} {X cx Y w1 : va_W} {H H1 : Heap} (hP : va_P D cl (X ++ (cx ++ Y)) H) (hD : va_D A0 (X ++ (cx ++ Y))) (hk : ∀ q : Nat, q < H.size → ¬ va_A cx H.size q → H1[q]? = H[q]?) (hF : ∀ q, va_A cx H.size q → A0 q) (hP1 : va_P D cl w1 H1) (hD1 : va_D (va_A cx H.size) w1) : va_P D cl (X ++ (w1 ++ Y)) H1 ∧ va_D A0 (X ++ (w1 ++ Y)) := by
  have hX : ∀ (i : Nat) (p : Nat × va_E), X[i]? = some p → (X ++ (cx ++ Y))[i]? = some p := fun i p h => by rw [List.getElem?_append_left (List.getElem?_eq_some_iff.mp h).1]; exact h
  have hC : ∀ (i : Nat) (p : Nat × va_E), cx[i]? = some p → (X ++ (cx ++ Y))[X.length + i]? = some p := fun i p h => by
    rw [List.getElem?_append_right (by omega), Nat.add_sub_cancel_left, List.getElem?_append_left (List.getElem?_eq_some_iff.mp h).1]; exact h
  have hY : ∀ (i : Nat) (p : Nat × va_E), Y[i]? = some p → (X ++ (cx ++ Y))[X.length + (cx.length + i)]? = some p := fun i p h => by
    rw [List.getElem?_append_right (by omega), Nat.add_sub_cancel_left, List.getElem?_append_right (by omega), Nat.add_sub_cancel_left]; exact h
  have nX : ∀ (i : Nat) (p : Nat × va_E), X[i]? = some p → p.1 < H.size ∧ ¬ va_A cx H.size p.1 := fun i p h => by
    have hl := (hP _ _ (hX i p h)).lt
    refine ⟨hl, fun q => ?_⟩
    rcases q with ⟨k, e, hk'⟩ | q
    · have := hD.1 _ _ _ _ (hX i p h) (hC k _ hk') rfl
      have h2 := (List.getElem?_eq_some_iff.mp h).1
      omega
    · omega
  have nY : ∀ (i : Nat) (p : Nat × va_E), Y[i]? = some p → p.1 < H.size ∧ ¬ va_A cx H.size p.1 := fun i p h => by
    have hl := (hP _ _ (hY i p h)).lt
    refine ⟨hl, fun q => ?_⟩
    rcases q with ⟨k, e, hk'⟩ | q
    · have := hD.1 _ _ _ _ (hY i p h) (hC k _ hk') rfl
      have h2 := (List.getElem?_eq_some_iff.mp hk').1
      omega
    · omega
  have pX : va_P D cl X H1 := fun k q h => (hP _ _ (hX k q h)).kept (hk _ (nX k q h).1 (nX k q h).2)
  have pY : va_P D cl Y H1 := fun k q h => (hP _ _ (hY k q h)).kept (hk _ (nY k q h).1 (nY k q h).2)
  have dX : va_D A0 X := ⟨fun i j p q hi hj e => hD.1 i j p q (hX i p hi) (hX j q hj) e, fun k q h => hD.2 _ _ (hX k q h)⟩
  have dY : va_D A0 Y := ⟨fun i j p q hi hj e => by have := hD.1 _ _ p q (hY i p hi) (hY j q hj) e; omega, fun k q h => hD.2 _ _ (hY k q h)⟩
  have d1 : va_D A0 w1 := ⟨hD1.1, fun k q h => hF _ (hD1.2 k q h)⟩
  have x1 : ∀ (i j : Nat) (p q : Nat × va_E), w1[i]? = some p → Y[j]? = some q → p.1 ≠ q.1 := fun i j p q hi hj e => (nY j q hj).2 (e ▸ hD1.2 i p hi)
  have xX : ∀ (i j : Nat) (p q : Nat × va_E), X[i]? = some p → (w1 ++ Y)[j]? = some q → p.1 ≠ q.1 := fun i j p q hi hj e => by
    by_cases hl : j < w1.length
    · rw [List.getElem?_append_left hl] at hj
      exact (nX i p hi).2 (e ▸ hD1.2 j q hj)
    · rw [List.getElem?_append_right (by omega)] at hj
      have := hD.1 _ _ p q (hX i p hi) (hY _ q hj) e
      have h2 := (List.getElem?_eq_some_iff.mp hi).1
      omega
  exact ⟨pX.app (hP1.app pY), dX.app (d1.app dY x1) xX⟩
theorem kI_of {s : State} {args : Array Value} {ty : FieldType} (h : (Cond.arrayClass ty).before args s = true) (hty : ∀ C, ty ≠ .object C) : ∃ cA, ArrOfT s cA ty ∧ va_RA s cA ty := by
  obtain ⟨cA, kA, comp, h1, h2, h3⟩ := Cond.arrayClass_spec h
  refine ⟨cA, fun n z => ⟨fun k h => (by cases h), kA, h2, comp, h3⟩, ?_⟩
  cases ty <;> first | exact h1 | exact absurd rfl (hty _)
theorem kI_same {s : State} {c1 c2 : ClassId} {ty : FieldType} (hty : ∀ C, ty ≠ .object C) (h1 : va_RA s c1 ty) (h2 : va_RA s c2 ty) : c1 = c2 := by
  have key : ∀ c, va_RA s c ty → s.vm.findClass ("[" ++ ty.toString) = some c := fun c h => by
    cases ty <;> first | exact h | exact absurd rfl (hty _)
  have a := key _ h1
  have b := key _ h2
  rw [a] at b
  exact Option.some.inj b
def Cy (p : Program) (s : State) (m : MethodId) (args : Array Value) (c : Code) (cc : ByteArray) (nL : Nat) (own : String) (D : va_G) (tys : List (ClassId × FieldType)) (A : Nat → Prop) : Prop :=
  CallFix p m c cc nL s args TB own ∧ va_K D vwCl tys s ∧ (∀ q, s.heap.size ≤ q → A q)
def Aw (p : Program) (l : Launch) (e : Env) (R : Room) (s : State) (m : MethodId) (args : Array Value) (below : List Frame) (meth : Method) (c : Code) (D : va_G) (A : Nat → Prop) (nL : Nat) (Q : State → Prop) (ws : va_W) (cells slots : Nat) (pc : Nat) (lv : List (Option Value)) (st : List Value) : Prop :=
  ∀ (H : Heap) (locs : List Loc) (ls : Array Slot), va_P D vwCl ws H → va_D A ws → va_S A s.heap H locs → LH ls nL lv → W p l e R s m args below meth c H locs cells slots Q (F0 m pc ls st)
section AW
variable {p : Program} {l : Launch} {e : Env} {R : Room} {s : State} {m : MethodId} {args : Array Value} {below : List Frame} {meth : Method} {c : Code} {D : va_G} {A : Nat → Prop} {nL : Nat} {Q : State → Prop} {ws : va_W} {cells slots : Nat} {pc : Nat} {lv : List (Option Value)} {st : List Value} {cc : ByteArray} {own : String} {tys : List (ClassId × FieldType)}
theorem a_step {pc2 : Nat} {st2 : List Value} (h : ∀ (H : Heap) (locs : List Loc) (ls : Array Slot), LH ls nL lv → W p l e R s m args below meth c H locs cells slots Q (F0 m pc2 ls st2) → W p l e R s m args below meth c H locs cells slots Q (F0 m pc ls st)) (kk : Aw p l e R s m args below meth c D A nL Q ws cells slots pc2 lv st2) : Aw p l e R s m args below meth c D A nL Q ws cells slots pc lv st :=
  fun H locs ls hP hD hS hL => h H locs ls hL (kk H locs ls hP hD hS hL)
theorem a_ws {ws' : va_W} {pc' : Nat} (h : ws = ws') (hpc : pc = pc') (kk : Aw p l e R s m args below meth c D A nL Q ws' cells slots pc' lv st) : Aw p l e R s m args below meth c D A nL Q ws cells slots pc lv st := by subst h; subst hpc; exact kk
theorem a_cs {c2 s2 : Nat} (h1 : cells = c2) (h2 : slots = s2) (kk : Aw p l e R s m args below meth c D A nL Q ws c2 s2 pc lv st) : Aw p l e R s m args below meth c D A nL Q ws cells slots pc lv st := by subst h1; subst h2; exact kk
theorem a_istore {i : Nat} {k : Fin 4} {x : Int32} {lv' : List (Option Value)} (C : Cy p s m args c cc nL own D tys A) (hd : decode cc pc = .ok (.istore_n k, 1)) (hi : (k : Nat) = i) (hn : i < nL) (hl : lset lv i (.int x) = lv') (kk : Aw p l e R s m args below meth c D A nL Q ws cells slots (pc + 1) lv' st) : Aw p l e R s m args below meth c D A nL Q ws cells slots pc lv (.int x :: st) :=
  fun H locs ls hP hD hS hL => lv_istore_n C.1.1 C.1.2.1 hd hi (LH_has hL) hn rfl (fun ls' hL' => kk H locs ls' hP hD hS (hl ▸ LH_set hL'))
theorem a_iinc {i : Nat} {n : Int} {x y : Int32} {lv' : List (Option Value)} (C : Cy p s m args c cc nL own D tys A) (hd : decode cc pc = .ok (.iinc i n, 3)) (hx : lv[i]? = some (some (.int x))) (hv : x + Int32.ofInt n = y) (hn : i < nL) (hl : lset lv i (.int y) = lv') (kk : Aw p l e R s m args below meth c D A nL Q ws cells slots (pc + 3) lv' st) : Aw p l e R s m args below meth c D A nL Q ws cells slots pc lv st :=
  fun H locs ls hP hD hS hL => by
  obtain ⟨k, hk⟩ := List.getElem?_of_mem (pz_mem.mpr ⟨i, (Nat.zero_add i).symm, hx⟩ : (i, Value.int x) ∈ pz 0 lv)
  exact lv_iinc (v := y) C.1.1 C.1.2.1 hd (LH_has hL) hk hv hn rfl (fun ls' hL' => kk H locs ls' hP hD hS (hl ▸ LH_set hL'))
theorem a_obj (C : Cy p s m args c cc nL own D tys A) {idx a : Nat} (hl : Cond.methodLink own idx Lib.objectInit ∈ TB) (hfr : 1 ≤ R.frames) (hlo : (st.map fun v => v.category).sum + 12 ≤ R.locals) (hd : decode cc pc = .ok (.invokespecial idx, 3)) (kk : Aw p l e R s m args below meth c D A nL Q ws cells slots (pc + 3) lv st) : Aw p l e R s m args below meth c D A nL Q ws cells slots pc lv (.ref a :: st) :=
  fun H locs ls hP hD hS hL => W.objInit C.1.1 C.1.2.1 C.1.2.2.2.1 (C.1.2.2.2.2 _ hl) (C.1.2.2.2.2 _ w_obj.1) (C.1.2.2.2.2 _ w_obj.2) rfl (by rw [C.1.2.2.1]; exact hL.1) rfl hd hfr (by show 2 * JFrame.monitorRoom (F0 m pc ls (.ref a :: st)) + _ + 12 ≤ _; have : JFrame.monitorRoom (F0 m pc ls (.ref a :: st)) = 0 := rfl; omega) (kk H locs ls hP hD hS hL)
theorem a_newI (C : Cy p s m args c cc nL own D tys A) {t0 : Nat} {cI : ClassId} (ht : tys[t0]? = some (cI, .int)) {n : Int32} {N : Nat} (hn : ¬ n < 0) (hN : n.toNatClampNeg = N) (hby : N * componentBytes .int ≤ 536870912) (hc : cells + 1 ≤ R.cells) (hs : slots + N ≤ R.slots) (hd : decode cc pc = .ok (.newarray .int, 2)) (kk : ∀ q : Nat, Aw p l e R s m args below meth c D A nL Q (ws ++ [(q, .inl (cI, N, .inl (fun _ => 0)))]) (cells + 1) (slots + N) (pc + 2) lv (.ref q :: st)) : Aw p l e R s m args below meth c D A nL Q ws cells slots pc lv (.int n :: st) :=
  fun H locs ls hP hD hS hL => va_newa (D := D) (atype := .int) (a0 := (N, .inl (fun _ => 0))) C.1.1 C.1.2.1 (C.1.2.2.2.2 _ w_arI) rfl C.2.1 hP hD hS C.2.2 (fun _ => rfl) hn hN hby hc hs hd (fun q cA H1 hK1 hP1 hD1 hS1 => by
    have e1 := (hK1.2 tys.length (cA, .int) (by rw [List.getElem?_append_right (Nat.le_refl _), Nat.sub_self]; rfl)).2
    have e2 := kI_same (fun _ h => by cases h) e1 (C.2.1.2 t0 _ ht).2
    subst e2
    exact kk q H1 locs ls hP1 hD1 hS1 hL)
theorem a_newZ (C : Cy p s m args c cc nL own D tys A) {t0 : Nat} {cI : ClassId} (ht : tys[t0]? = some (cI, .boolean)) {n : Int32} {N : Nat} (hn : ¬ n < 0) (hN : n.toNatClampNeg = N) (hby : N * componentBytes .boolean ≤ 536870912) (hc : cells + 1 ≤ R.cells) (hs : slots + N ≤ R.slots) (hd : decode cc pc = .ok (.newarray .boolean, 2)) (kk : ∀ q : Nat, Aw p l e R s m args below meth c D A nL Q (ws ++ [(q, .inl (cI, N, .inl (fun _ => 0)))]) (cells + 1) (slots + N) (pc + 2) lv (.ref q :: st)) : Aw p l e R s m args below meth c D A nL Q ws cells slots pc lv (.int n :: st) :=
  fun H locs ls hP hD hS hL => va_newa (D := D) (atype := .boolean) (a0 := (N, .inl (fun _ => 0))) C.1.1 C.1.2.1 (C.1.2.2.2.2 _ w_arZ) rfl C.2.1 hP hD hS C.2.2 (fun _ => rfl) hn hN hby hc hs hd (fun q cA H1 hK1 hP1 hD1 hS1 => by
    have e1 := (hK1.2 tys.length (cA, .boolean) (by rw [List.getElem?_append_right (Nat.le_refl _), Nat.sub_self]; rfl)).2
    have e2 := kI_same (fun _ h => by cases h) e1 (C.2.1.2 t0 _ ht).2
    subst e2
    exact kk q H1 locs ls hP1 hD1 hS1 hL)
theorem a_put (C : Cy p s m args c cc nL own D tys A) {q0 a k ci idx : Nat} {fs : List Value} {q : vw_C} {v : Value} {ty : FieldType} {ws' : va_W} (he : ws[q0]? = some (a, .inr (ci, fs))) (hc : vwCl[ci]? = some q) (hin : ∀ w ∈ u_ws q.1 q.2.1 q.2.2, w ∈ TB) (hown : (q.2.1 k).1 = q.1) (hkn : k < q.2.2) (ty0 : Nat → FieldType) (hty : ∀ k, k < q.2.2 → parseFieldDescriptor (q.2.1 k).2.2.1 = some (ty0 k)) (hnm : ∀ a, a < q.2.2 → ∀ b, b < q.2.2 → a ≠ b → (q.2.1 a).2.1 ≠ (q.2.1 b).2.1) (htk : ty0 k = ty) (hfin : (q.2.1 k).2.2.2 = false) (hn : narrow ty v = v) (hfit : fits ty v = true) (hlen : k < fs.length) (hl : Cond.fieldLink own idx q.1 (q.2.1 k).2.1 (q.2.1 k).2.2.1 ∈ TB) (hd : decode cc pc = .ok (.putfield idx, 3)) (hw : ws.set q0 (a, .inr (ci, fs.set k v)) = ws') (kk : Aw p l e R s m args below meth c D A nL Q ws' cells slots (pc + 3) lv st) : Aw p l e R s m args below meth c D A nL Q ws cells slots pc lv (v :: .ref a :: st) :=
  fun H locs ls hP hD hS hL => va_put (D := D) (C := q.1) (T := q.2.1) (N := q.2.2) (ty := ty) C.1.1 C.1.2.1 C.1.2.2.2.2 hin ty0 hty hnm C.1.2.2.2.1 C.2.1 hP hD hS q0 he hc k hkn (C.1.2.2.2.2 _ hl) (fun x h => by rw [hown] at h; exact h) hfin (by rw [hty k hkn, htk]) hn hfit hlen hd (fun H1 locs1 hP1 hD1 hS1 => kk H1 locs1 ls (hw ▸ hP1) (hw ▸ hD1) hS1 hL)
theorem a_putF (C : Cy p s m args c cc nL own D tys A) (hinit : meth.name = "<init>") {q0 a k ci idx : Nat} {fs : List Value} {q : vw_C} {v : Value} {ty : FieldType} {ws' : va_W} (he : ws[q0]? = some (a, .inr (ci, fs))) (hc : vwCl[ci]? = some q) (hin : ∀ w ∈ u_ws q.1 q.2.1 q.2.2, w ∈ TB) (hown : (q.2.1 k).1 = q.1) (hq : q.1 = own) (hkn : k < q.2.2) (ty0 : Nat → FieldType) (hty : ∀ k, k < q.2.2 → parseFieldDescriptor (q.2.1 k).2.2.1 = some (ty0 k)) (hnm : ∀ a, a < q.2.2 → ∀ b, b < q.2.2 → a ≠ b → (q.2.1 a).2.1 ≠ (q.2.1 b).2.1) (htk : ty0 k = ty) (hfin : (q.2.1 k).2.2.2 = true) (hn : narrow ty v = v) (hfit : fits ty v = true) (hlen : k < fs.length) (hl : Cond.fieldLink own idx q.1 (q.2.1 k).2.1 (q.2.1 k).2.2.1 ∈ TB) (hd : decode cc pc = .ok (.putfield idx, 3)) (hw : ws.set q0 (a, .inr (ci, fs.set k v)) = ws') (kk : Aw p l e R s m args below meth c D A nL Q ws' cells slots (pc + 3) lv st) : Aw p l e R s m args below meth c D A nL Q ws cells slots pc lv (v :: .ref a :: st) :=
  fun H locs ls hP hD hS hL => va_putF (D := D) (C := q.1) (T := q.2.1) (N := q.2.2) (ty := ty) C.1.1 C.1.2.1 C.1.2.2.2.2 hin ty0 hty hnm C.1.2.2.2.1 C.2.1 hP hD hS q0 he hc k hkn (C.1.2.2.2.2 _ hl) (fun x h => by rw [hown] at h; exact h) hfin hinit (by rw [hown, hq]) (by rw [hty k hkn, htk]) hn hfit hlen hd (fun H1 locs1 hP1 hD1 hS1 => kk H1 locs1 ls (hw ▸ hP1) (hw ▸ hD1) hS1 hL)
theorem a_get (C : Cy p s m args c cc nL own D tys A) {q0 a k ci idx : Nat} {fs : List Value} {q : vw_C} {v : Value} (he : ws[q0]? = some (a, .inr (ci, fs))) (hv : fs[k]? = some v) (hc : vwCl[ci]? = some q) (hin : ∀ w ∈ u_ws q.1 q.2.1 q.2.2, w ∈ TB) (hown : (q.2.1 k).1 = q.1) (hkn : k < q.2.2) (hl : Cond.fieldLink own idx q.1 (q.2.1 k).2.1 (q.2.1 k).2.2.1 ∈ TB) (hd : decode cc pc = .ok (.getfield idx, 3)) (kk : Aw p l e R s m args below meth c D A nL Q ws cells slots (pc + 3) lv (v :: st)) : Aw p l e R s m args below meth c D A nL Q ws cells slots pc lv (.ref a :: st) :=
  fun H locs ls hP hD hS hL => va_get (D := D) (C := q.1) (T := q.2.1) (N := q.2.2) C.1.1 C.1.2.1 C.1.2.2.2.2 hin C.1.2.2.2.1 C.2.1 hP q0 he hc k hkn (C.1.2.2.2.2 _ hl) (fun x h => by rw [hown] at h; exact h) hv hd (kk H locs ls hP hD hS hL)
theorem a_vret (C : Cy p s m args c cc nL own D tys A) (hr : meth.sig.returnType = none) (hlk : meth.locks = false) {S : Type} {B : S → State → Prop} {post : S → Prop} (x : S) (hx : post x) (hB : ∀ t : State, va_P D vwCl ws t.heap → va_D A ws → s.WarmedH t.vm → B x t) (hd : decode cc pc = .ok (.return_, 1)) : Aw p l e R s m args below meth c D A nL (MQ below (va_Qv post B A) args s cells slots A) ws cells slots pc lv [] :=
  fun H locs ls hP hD hS hL => W.vret C.1.1 C.1.2.1 hr (fun t ht hW => ⟨⟨x, rfl, hx, hB t (by rw [ht]; exact hP) hD hW⟩, hS.F ht⟩) hS.2.2 hd hlk
end AW
