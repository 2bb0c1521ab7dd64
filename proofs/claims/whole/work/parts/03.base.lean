/-! ===== the base: a flat memory over a fixed layout of cells ===== -/
abbrev ShF : Type := Option Nat ⊕ Bool
abbrev Sh : Type := (Nat × List ShF) ⊕ ((ClassId × Nat) × Option (Nat → Option Nat))
abbrev Mem : Type := (Nat → Nat → Int32) × (Nat → Nat → Int64)
def fv (ad : Nat → Nat) (σ : Mem) (j k : Nat) (d : ShF) : Value := match d with
  | .inl (some r) => .ref (ad r)
  | .inl none => .null
  | .inr false => .int (σ.1 j k)
  | .inr true => .long (σ.2 j k)
def fvs (ad : Nat → Nat) (σ : Mem) (j : Nat) : Nat → List ShF → List Value
  | _, [] => []
  | k, d :: ds => fv ad σ j k d :: fvs ad σ j (k + 1) ds
def ce (ad : Nat → Nat) (σ : Mem) (j : Nat) (s : Sh) : va_E := match s with
  | .inl o => .inr (o.1, fvs ad σ j 0 o.2)
  | .inr (a, none) => .inl (a.1, a.2, .inl (σ.1 j))
  | .inr (a, some f) => .inl (a.1, a.2, .inr (.inr (.inr (.inr (fun i => (f i).map ad)))))
def wd (ad : Nat → Nat) (σ : Mem) : Nat → List Sh → va_W
  | _, [] => []
  | j, s :: ss => (ad j, ce ad σ j s) :: wd ad σ (j + 1) ss
def putI (σ : Mem) (j k : Nat) (v : Int32) : Mem := (fun a => if a = j then upd (σ.1 j) k v else σ.1 a, σ.2)
def putL (σ : Mem) (j k : Nat) (v : Int64) : Mem := (σ.1, fun a => if a = j then vp_updL (σ.2 j) k v else σ.2 a)
def putR (σ : Mem) (j : Nat) (f : Nat → Int32) : Mem := (fun a => if a = j then f else σ.1 a, σ.2)
theorem fvs_get {ad : Nat → Nat} {σ : Mem} {j : Nat} {d : ShF} : ∀ {ds : List ShF} {k k0 : Nat}, ds[k]? = some d → (fvs ad σ j k0 ds)[k]? = some (fv ad σ j (k0 + k) d)
  | [], k, k0, h => by simp at h
  | d0 :: ds, 0, k0, h => by
    simp at h
    subst h
    simp [fvs]
  | d0 :: ds, k + 1, k0, h => by
    have h' : ds[k]? = some d := by simpa using h
    have := fvs_get (ad := ad) (σ := σ) (j := j) (k0 := k0 + 1) h'
    simp only [fvs, List.getElem?_cons_succ]
    rw [this]
    congr 2
    omega
theorem fvs_len {ad : Nat → Nat} {σ : Mem} {j : Nat} : ∀ {ds : List ShF} {k0 : Nat}, (fvs ad σ j k0 ds).length = ds.length
  | [], _ => rfl
  | _ :: ds, k0 => by simp [fvs, fvs_len (ds := ds)]
theorem fvs_upd {ad : Nat → Nat} {σ σ' : Mem} {j : Nat} {v : Value} : ∀ {ds : List ShF} {k k0 : Nat} {d : ShF}, ds[k]? = some d → fv ad σ' j (k0 + k) d = v → (∀ i d', i ≠ k → ds[i]? = some d' → fv ad σ j (k0 + i) d' = fv ad σ' j (k0 + i) d') → (fvs ad σ j k0 ds).set k v = fvs ad σ' j k0 ds
  | [], k, k0, d, h, _, _ => by simp at h
  | d0 :: ds, 0, k0, d, h, hv, ho => by
    simp at h
    subst h
    have hr : fvs ad σ j (k0 + 1) ds = fvs ad σ' j (k0 + 1) ds := by
      apply List.ext_getElem?
      intro i
      cases hd : ds[i]? with
      | none =>
        have hl : ds.length ≤ i := List.getElem?_eq_none_iff.mp hd
        rw [List.getElem?_eq_none_iff.mpr (by rw [fvs_len]; exact hl), List.getElem?_eq_none_iff.mpr (by rw [fvs_len]; exact hl)]
      | some d' =>
        rw [fvs_get hd, fvs_get hd]
        have := ho (i + 1) d' (by omega) (by simpa using hd)
        rw [show k0 + 1 + i = k0 + (i + 1) from by omega, this]
    simp only [fvs, List.set_cons_zero, hr]
    rw [← hv]
    rfl
  | d0 :: ds, k + 1, k0, d, h, hv, ho => by
    have h' : ds[k]? = some d := by simpa using h
    have h0 := ho 0 d0 (by omega) (by simp)
    have hr := fvs_upd (ad := ad) (σ := σ) (σ' := σ') (j := j) (v := v) (k0 := k0 + 1) h' (by rw [show k0 + 1 + k = k0 + (k + 1) from by omega]; exact hv) (fun i d' hi hd => by
      have := ho (i + 1) d' (by omega) (by simpa using hd)
      rw [show k0 + 1 + i = k0 + (i + 1) from by omega]
      exact this)
    simp only [fvs, List.set_cons_succ, hr]
    congr 1
theorem wd_get {ad : Nat → Nat} {σ : Mem} {s : Sh} : ∀ {w : List Sh} {j j0 : Nat}, w[j]? = some s → (wd ad σ j0 w)[j]? = some (ad (j0 + j), ce ad σ (j0 + j) s)
  | [], j, j0, h => by simp at h
  | s0 :: w, 0, j0, h => by
    simp at h
    subst h
    simp [wd]
  | s0 :: w, j + 1, j0, h => by
    have h' : w[j]? = some s := by simpa using h
    have := wd_get (ad := ad) (σ := σ) (j0 := j0 + 1) h'
    simp only [wd, List.getElem?_cons_succ]
    rw [this, show j0 + 1 + j = j0 + (j + 1) from by omega]
theorem wd_get0 {ad : Nat → Nat} {σ : Mem} {s : Sh} {w : List Sh} {j : Nat} (h : w[j]? = some s) : (wd ad σ 0 w)[j]? = some (ad j, ce ad σ j s) := by
  have := wd_get (ad := ad) (σ := σ) (j0 := 0) h
  rwa [Nat.zero_add] at this
theorem wd_len {ad : Nat → Nat} {σ : Mem} : ∀ {w : List Sh} {j0 : Nat}, (wd ad σ j0 w).length = w.length
  | [], _ => rfl
  | _ :: w, j0 => by simp [wd, wd_len (w := w)]
theorem wd_none {ad : Nat → Nat} {σ : Mem} {w : List Sh} {j0 j : Nat} (h : w[j]? = none) : (wd ad σ j0 w)[j]? = none := List.getElem?_eq_none_iff.mpr (by rw [wd_len]; exact List.getElem?_eq_none_iff.mp h)
theorem wd_upd {ad : Nat → Nat} {σ σ' : Mem} {s : Sh} {e : va_E} {w : List Sh} {j : Nat} (h : w[j]? = some s) (he : ce ad σ' j s = e) (ho : ∀ i s', i ≠ j → w[i]? = some s' → ce ad σ i s' = ce ad σ' i s') : (wd ad σ 0 w).set j (ad j, e) = wd ad σ' 0 w := by
  apply List.ext_getElem?
  intro i
  by_cases hij : i = j
  · subst hij
    have hl : i < (wd ad σ 0 w).length := by rw [wd_len]; exact (List.getElem?_eq_some_iff.mp h).1
    rw [List.getElem?_set_self hl, wd_get0 h, he]
  · rw [List.getElem?_set_ne (fun q => hij q.symm)]
    cases hw : w[i]? with
    | none => rw [wd_none hw, wd_none hw]
    | some s' => rw [wd_get0 hw, wd_get0 hw, ho i s' hij hw]
theorem fv_ext {ad : Nat → Nat} {σ σ' : Mem} {i k : Nat} (h1 : σ.1 i k = σ'.1 i k) (h2 : σ.2 i k = σ'.2 i k) (d : ShF) : fv ad σ i k d = fv ad σ' i k d := by
  match d with
  | .inl (some _) => rfl
  | .inl none => rfl
  | .inr false => simp [fv, h1]
  | .inr true => simp [fv, h2]
theorem fvs_ext {ad : Nat → Nat} {σ σ' : Mem} {i : Nat} (h1 : σ.1 i = σ'.1 i) (h2 : σ.2 i = σ'.2 i) : ∀ (k : Nat) (ds : List ShF), fvs ad σ i k ds = fvs ad σ' i k ds
  | _, [] => rfl
  | k, d :: ds => by
    simp only [fvs]
    rw [fv_ext (σ := σ) (σ' := σ') (by rw [h1]) (by rw [h2]) d, fvs_ext h1 h2 (k + 1) ds]
theorem ce_ext {ad : Nat → Nat} {σ σ' : Mem} {i : Nat} (h1 : σ.1 i = σ'.1 i) (h2 : σ.2 i = σ'.2 i) (s : Sh) : ce ad σ i s = ce ad σ' i s := by
  match s with
  | .inl o => simp only [ce]; rw [fvs_ext h1 h2]
  | .inr (a, none) => simp only [ce]; rw [h1]
  | .inr (a, some f) => rfl
theorem wd_putI {ad : Nat → Nat} {σ : Mem} {w : List Sh} {j k ci : Nat} {ds : List ShF} {v : Int32} (hj : w[j]? = some (.inl (ci, ds))) (hk : ds[k]? = some (.inr false)) : (wd ad σ 0 w).set j (ad j, .inr (ci, (fvs ad σ j 0 ds).set k (.int v))) = wd ad (putI σ j k v) 0 w := by
  refine wd_upd hj ?_ (fun i s' hi _ => ce_ext (σ := σ) (σ' := putI σ j k v) (by simp [putI, hi]) rfl s')
  have h1 := fvs_upd (ad := ad) (σ := σ) (σ' := putI σ j k v) (j := j) (k0 := 0) (v := .int v) hk (by simp [fv, putI, upd]) (fun i d' hi hd => fv_ext (σ := σ) (σ' := putI σ j k v) (by simp [putI, upd, hi]) rfl d')
  rw [h1]
  rfl
theorem wd_putL {ad : Nat → Nat} {σ : Mem} {w : List Sh} {j k ci : Nat} {ds : List ShF} {v : Int64} (hj : w[j]? = some (.inl (ci, ds))) (hk : ds[k]? = some (.inr true)) : (wd ad σ 0 w).set j (ad j, .inr (ci, (fvs ad σ j 0 ds).set k (.long v))) = wd ad (putL σ j k v) 0 w := by
  refine wd_upd hj ?_ (fun i s' hi _ => ce_ext (σ := σ) (σ' := putL σ j k v) rfl (by simp [putL, hi]) s')
  have h1 := fvs_upd (ad := ad) (σ := σ) (σ' := putL σ j k v) (j := j) (k0 := 0) (v := .long v) hk (by simp [fv, putL, vp_updL]) (fun i d' hi hd => fv_ext (σ := σ) (σ' := putL σ j k v) rfl (by simp [putL, vp_updL, hi]) d')
  rw [h1]
  rfl
theorem wd_putR {ad : Nat → Nat} {σ : Mem} {w : List Sh} {j : Nat} {a : ClassId × Nat} {f : Nat → Int32} (hj : w[j]? = some (.inr (a, none))) : (wd ad σ 0 w).set j (ad j, .inl (a.1, a.2, .inl f)) = wd ad (putR σ j f) 0 w :=
  wd_upd hj (by simp [ce, putR]) (fun i s' hi _ => ce_ext (σ := σ) (σ' := putR σ j f) (by simp [putR, hi]) rfl s')
theorem putR_upd (σ : Mem) (j k : Nat) (v : Int32) : putR σ j (upd (σ.1 j) k v) = putI σ j k v := rfl
/-- the addresses of a world are apart, and of a kind -/
def adOk (A : Nat → Prop) (ad : Nat → Nat) (n : Nat) : Prop := (∀ i j, i < n → j < n → ad i = ad j → i = j) ∧ ∀ i, i < n → A (ad i)
theorem wd_D {A : Nat → Prop} {ad : Nat → Nat} {w : List Sh} (h : adOk A ad w.length) (σ : Mem) : va_D A (wd ad σ 0 w) := by
  have key : ∀ (i : Nat) (p : Nat × va_E), (wd ad σ 0 w)[i]? = some p → i < w.length ∧ p.1 = ad i := by
    intro i p hp
    cases hw : w[i]? with
    | none => rw [wd_none hw] at hp; cases hp
    | some s => rw [wd_get0 hw] at hp; cases hp; exact ⟨(List.getElem?_eq_some_iff.mp hw).1, rfl⟩
  refine ⟨fun i j p q hp hq e => ?_, fun k q hk => ?_⟩
  · obtain ⟨h1, e1⟩ := key i p hp
    obtain ⟨h2, e2⟩ := key j q hq
    exact h.1 i j h1 h2 (by rw [← e1, ← e2, e])
  · obtain ⟨h1, e1⟩ := key k q hk
    rw [e1]
    exact h.2 k h1
def AA (ad : Nat → Nat) (n sz : Nat) : Nat → Prop := fun q => (∃ j, j < n ∧ q = ad j) ∨ sz ≤ q
theorem adOk_self {A : Nat → Prop} {ad : Nat → Nat} {n sz : Nat} (h : adOk A ad n) : adOk (AA ad n sz) ad n := ⟨h.1, fun i hi => Or.inl ⟨i, hi, rfl⟩⟩
/-! ===== locals ===== -/
def lcl (lv : List (Option Value)) (i : Nat) : List (Option Value) := match i with
  | 0 => lv
  | k + 1 => match lv[k]? with
    | some (some v) => if v.category = 2 then lv.set k none else lv
    | _ => lv
def lset (lv : List (Option Value)) (i : Nat) (v : Value) : List (Option Value) := (lcl lv i).set i (some v)
def lset2 (lv : List (Option Value)) (i : Nat) (v : Value) : List (Option Value) := ((lcl lv i).set i (some v)).set (i + 1) none
def LH (ls : Array Slot) (nL : Nat) (lv : List (Option Value)) : Prop := ls.size = nL ∧ lv_wf ls ∧ ∀ (i : Nat) (v : Value), lv[i]? = some (some v) → ls[i]? = some (Slot.val v)
def pz : Nat → List (Option Value) → List (Nat × Value)
  | _, [] => []
  | i, none :: t => pz (i + 1) t
  | i, some v :: t => (i, v) :: pz (i + 1) t
theorem pz_mem : ∀ {lv : List (Option Value)} {i0 i : Nat} {v : Value}, (i, v) ∈ pz i0 lv ↔ ∃ k, i = i0 + k ∧ lv[k]? = some (some v)
  | [], i0, i, v => by simp [pz]
  | none :: t, i0, i, v => by
    simp only [pz]
    rw [pz_mem]
    constructor
    · rintro ⟨k, rfl, h⟩
      exact ⟨k + 1, by omega, by simpa using h⟩
    · rintro ⟨k, rfl, h⟩
      cases k with
      | zero => simp at h
      | succ k => exact ⟨k, by omega, by simpa using h⟩
  | some u :: t, i0, i, v => by
    simp only [pz, List.mem_cons, Prod.mk.injEq]
    rw [pz_mem]
    constructor
    · rintro (⟨rfl, rfl⟩ | ⟨k, rfl, h⟩)
      · exact ⟨0, by omega, by simp⟩
      · exact ⟨k + 1, by omega, by simpa using h⟩
    · rintro ⟨k, rfl, h⟩
      cases k with
      | zero => simp at h; exact Or.inl ⟨by omega, h.symm⟩
      | succ k => exact Or.inr ⟨k, by omega, by simpa using h⟩
theorem LH_has {ls : Array Slot} {nL : Nat} {lv : List (Option Value)} (h : LH ls nL lv) : lv_has ls nL (pz 0 lv) := by
  refine ⟨h.1, h.2.1, fun q hq => ?_⟩
  obtain ⟨i, v⟩ := q
  obtain ⟨k, rfl, hk⟩ := pz_mem.mp hq
  rw [Nat.zero_add]
  exact h.2.2 k v hk
theorem LH_at {ls : Array Slot} {nL : Nat} {lv : List (Option Value)} (h : LH ls nL lv) {i : Nat} {v : Value} (hi : lv[i]? = some (some v)) : ls[i]? = some (Slot.val v) := h.2.2 i v hi
theorem lcl_of {lv : List (Option Value)} {i j : Nat} {u : Value} (h1 : (lcl lv i)[j]? = some (some u)) : lv[j]? = some (some u) := by
  cases i with
  | zero => exact h1
  | succ k =>
    unfold lcl at h1
    simp only at h1
    split at h1
    · rename_i w hk
      split at h1
      · by_cases hjk : j = k
        · subst hjk
          rw [List.getElem?_set_self (List.getElem?_eq_some_iff.mp hk).1] at h1
          cases h1
        · rwa [List.getElem?_set_ne (fun q => hjk q.symm)] at h1
      · exact h1
    · exact h1
theorem lcl_cat {lv : List (Option Value)} {i j : Nat} {u : Value} (h1 : (lcl lv i)[j]? = some (some u)) : (j + 1 == i) = false ∨ (u.category == 2) = false := by
  by_cases hj1 : j + 1 = i
  · right
    subst hj1
    unfold lcl at h1
    simp only at h1
    split at h1
    · rename_i w hk
      split at h1
      · rw [List.getElem?_set_self (List.getElem?_eq_some_iff.mp hk).1] at h1
        cases h1
      · rename_i hc
        rw [hk] at h1
        cases h1
        simpa using hc
    · rename_i hk
      exact absurd h1 (hk u)
  · left
    simpa using hj1
theorem LH_set {ls' : Array Slot} {nL i : Nat} {lv : List (Option Value)} {v : Value} (h : lv_has ls' nL ((i, v) :: (pz 0 lv).filter (fun q => !(q.1 == i) && !(q.1 + 1 == i && q.2.category == 2)))) : LH ls' nL (lset lv i v) := by
  refine ⟨h.1, h.2.1, fun j u hj => ?_⟩
  by_cases hji : j = i
  · subst hji
    have hl : j < (lset lv j v).length := (List.getElem?_eq_some_iff.mp hj).1
    unfold lset at hj hl
    rw [List.getElem?_set_self (by simpa using hl)] at hj
    cases hj
    exact h.2.2 (j, _) List.mem_cons_self
  · have h1 : (lcl lv i)[j]? = some (some u) := by
      unfold lset at hj
      rwa [List.getElem?_set_ne (fun q => hji q.symm)] at hj
    refine h.2.2 (j, u) (List.mem_cons_of_mem _ (List.mem_filter.mpr ⟨?_, ?_⟩))
    · exact pz_mem.mpr ⟨j, by omega, lcl_of h1⟩
    · have e1 : (j == i) = false := by simpa using hji
      simp only [e1, Bool.not_false, Bool.true_and, Bool.not_eq_true', Bool.and_eq_false_iff]
      exact lcl_cat h1
