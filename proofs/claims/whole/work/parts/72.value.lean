/-! ===== the class evaluates codes ===== -/
def gc (x : Int32) : Prop := (∃ j, j < 10006 ∧ x = nI j) ∨ (VW x ∧ x ≠ -10)
def RWF (f : Nat → Int32) : Nat → List Int32 → Prop
  | _, [] => True
  | k, x :: r => f k = x ∧ RWF f (k + 1) r
theorem SKR.suf {f : Nat → Int32} : ∀ (A B : List Int32), SKR f (A ++ B) → SKR f B
  | [], _, h => h
  | _ :: A, B, h => SKR.suf A B h.2
theorem SKR.rwf {f : Nat → Int32} : ∀ (c C : List Int32), SKR f (c.reverse ++ C) → RWF f C.length c
  | [], _, _ => trivial
  | x :: r, C, h => by
    rw [List.reverse_cons, List.append_assoc] at h
    have h : SKR f (r.reverse ++ (x :: C)) := h
    have h1 := SKR.suf _ _ h
    exact ⟨h1.1, SKR.rwf r (x :: C) h⟩
theorem RWF.cg {f g : Nat → Int32} : ∀ {k : Nat} {c : List Int32}, RWF f k c → (∀ j, k ≤ j → j < k + c.length → g j = f j) → RWF g k c
  | _, [], _, _ => trivial
  | k, x :: r, h, e => ⟨(e k (Nat.le_refl _) (by simp only [List.length_cons]; omega)).trans h.1, RWF.cg (k := k + 1) (c := r) h.2 (fun j a b => e j (by omega) (by simp only [List.length_cons]; omega))⟩
/-! no code comes before what it needs -/
def vdp : Nat → List Int32 → Prop
  | _, [] => True
  | d, x :: r => if 0 ≤ x then vdp (d + 1) r else if x = -8 ∨ x = -18 then 1 ≤ d ∧ vdp d r else 2 ≤ d ∧ vdp (d - 1) r
def nt1 (x : Int32) : Int := if 0 ≤ x then 1 else if x = -8 ∨ x = -18 then 0 else -1
def nt : List Int32 → Int
  | [] => 0
  | x :: r => nt1 x + nt r
theorem estep_len (F : Nat → Int32) (stk : List Int32) (x : Int32) : (stk.length : Int) + nt1 x ≤ (estep F stk x).length ∧ (((estep F stk x).length : Int) = stk.length + nt1 x → if 0 ≤ x then True else if x = -8 ∨ x = -18 then 1 ≤ stk.length else 2 ≤ stk.length) ∧ (2 ≤ stk.length → ((estep F stk x).length : Int) = stk.length + nt1 x) := by
  unfold estep nt1
  by_cases h0 : 0 ≤ x
  · simp only [if_pos h0, List.length_cons]
    exact ⟨by omega, fun _ => trivial, fun _ => by omega⟩
  simp only [if_neg h0]
  by_cases h8 : x = -8
  · simp only [if_pos h8, if_pos (show x = -8 ∨ x = -18 from Or.inl h8)]
    cases stk with
    | nil => exact ⟨by simp, fun h => by simp at h, fun h => by simp at h⟩
    | cons a r => exact ⟨by simp only [List.length_cons]; omega, fun _ => by simp, fun _ => by simp only [List.length_cons]; omega⟩
  simp only [if_neg h8]
  by_cases h18 : x = -18
  · simp only [if_pos h18, if_pos (show x = -8 ∨ x = -18 from Or.inr h18)]
    cases stk with
    | nil => exact ⟨by simp, fun h => by simp at h, fun h => by simp at h⟩
    | cons a r => exact ⟨by simp only [List.length_cons]; omega, fun _ => by simp, fun _ => by simp only [List.length_cons]; omega⟩
  simp only [if_neg h18, if_neg (show ¬ (x = -8 ∨ x = -18) from fun z => z.elim h8 h18)]
  cases stk with
  | nil => exact ⟨by simp, fun h => by simp at h, fun h => by simp at h⟩
  | cons a r =>
    cases r with
    | nil => exact ⟨by simp, fun h => by simp at h, fun h => by simp at h⟩
    | cons a2 r => exact ⟨by simp only [List.length_cons]; omega, fun _ => by simp, fun _ => by simp only [List.length_cons]; omega⟩
theorem evc_cons (F : Nat → Int32) (x : Int32) (r stk : List Int32) : evc F (x :: r) stk = evc F r (estep F stk x) := rfl
theorem evc_len (F : Nat → Int32) : ∀ (c stk : List Int32), (stk.length : Int) + nt c ≤ (evc F c stk).length
  | [], stk => by show (stk.length : Int) + 0 ≤ stk.length; omega
  | x :: r, stk => by
    have h1 := (estep_len F stk x).1
    have h2 := evc_len F r (estep F stk x)
    show (stk.length : Int) + (nt1 x + nt r) ≤ (evc F r (estep F stk x)).length
    omega
theorem evc_vdp (F : Nat → Int32) : ∀ (c stk : List Int32), ((evc F c stk).length : Int) = stk.length + nt c → vdp stk.length c
  | [], _, _ => trivial
  | x :: r, stk, h => by
    obtain ⟨h1, h3, _⟩ := estep_len F stk x
    have h2 := evc_len F r (estep F stk x)
    have h : ((evc F r (estep F stk x)).length : Int) = stk.length + (nt1 x + nt r) := h
    have e : ((estep F stk x).length : Int) = stk.length + nt1 x := by omega
    have ih := evc_vdp F r (estep F stk x) (by omega)
    have h3 := h3 e
    unfold vdp
    unfold nt1 at e
    by_cases h0 : 0 ≤ x
    · rw [if_pos h0] at e ⊢
      rw [show stk.length + 1 = (estep F stk x).length by omega]
      exact ih
    · rw [if_neg h0] at e h3 ⊢
      by_cases h8 : x = -8 ∨ x = -18
      · rw [if_pos h8] at e h3 ⊢
        rw [show (estep F stk x).length = stk.length by omega] at ih
        exact ⟨h3, ih⟩
      · rw [if_neg h8] at e h3 ⊢
        rw [show (estep F stk x).length = stk.length - 1 by omega] at ih
        exact ⟨h3, ih⟩
theorem evc_big (F : Nat → Int32) : ∀ (c stk : List Int32), c.length + 1 ≤ stk.length → ((evc F c stk).length : Int) = stk.length + nt c
  | [], stk, _ => by show (stk.length : Int) = stk.length + 0; omega
  | x :: r, stk, h => by
    simp only [List.length_cons] at h
    have e := (estep_len F stk x).2.2 (by omega)
    have hn : -1 ≤ nt1 x := by unfold nt1; split <;> (try split) <;> omega
    have ih := evc_big F r (estep F stk x) (by omega)
    show ((evc F r (estep F stk x)).length : Int) = stk.length + (nt1 x + nt r)
    omega
theorem vdp_of {F : Nat → Int32} {c : List Int32} {v : Int32} (h : ∀ stk, evc F c stk = v :: stk) : vdp 0 c := by
  have h1 := evc_big F c (List.replicate (c.length + 1) 0) (by simp)
  rw [h] at h1
  simp only [List.length_cons, List.length_replicate] at h1
  refine evc_vdp F c [] ?_
  rw [h]
  simp only [List.length_cons, List.length_nil]
  omega
section VALUE
variable {b : Nat}
theorem b115_ok (a1 : Int32) (b2 : Nat) (ih : Mem × Int32 × Int32 → Option (Int32 × Mem)) {τ : Mem} {d : Nat} (hd : d + 1 ≤ 160) {c A B : Int32} (hc : VW c ∧ c ≠ -10) (hA : τ.1 (b + 3) d = A) (hB : τ.1 (b + 3) (d + 1) = B) (y : Int32) : fX3_value_b115 b a1 b2 ih τ (nI (d + 1)) y c = ih (putI τ (b + 3) d (if c = -8 then (if A = 0 then 1 else 0) else if c = -18 then -A else bop c A B), nI (d + 1), y + 1) := by
  have g1 : inB (nI d) 161 = true := inB_nI (by omega) (by decide)
  have g2 : inB (nI (d + 1)) 161 = true := inB_nI (by omega) (by decide)
  have w : ∀ v, wr τ (b + 3) (nI d) v = putI τ (b + 3) d v := fun v => wr_nI (by omega)
  have r1 : rd τ (b + 3) (nI d) = A := by rw [rd_nI (by omega)]; exact hA
  have r2 : rd τ (b + 3) (nI (d + 1)) = B := by rw [rd_nI (by omega)]; exact hB
  unfold fX3_value_b115 fX3_value_b214 fX3_value_b238
  rw [if_pos (show (1 : Int32) ≤ nI (d + 1) from nI_le (a := 1) (by omega) (by omega))]
  simp only [nI_pred, gd_of g1, gd_of g2, stp_e, w, r1, r2]
  obtain ⟨h, h10⟩ := hc
  rcases h with rfl | rfl | rfl | rfl | rfl | rfl | rfl | rfl | rfl | rfl
  · rw [if_neg (by decide), if_neg (by decide), if_neg (by decide), if_neg (by decide), if_neg (by decide), if_neg (by decide), if_neg (by decide), if_neg (by decide), if_neg (by decide), if_neg (by decide), if_neg (by decide), if_pos rfl, if_neg (show ¬ (-6 : Int32) = -8 by decide), if_neg (show ¬ (-6 : Int32) = -18 by decide), show bop (-6) A B = if A = 0 ∧ B = 0 then 0 else 1 from rfl]
    by_cases q : A = 0
    · rw [if_pos q]
      by_cases q2 : B = 0
      · rw [if_pos q2, if_pos ⟨q, q2⟩]
      · rw [if_neg q2, if_neg (fun z => q2 z.2)]
    · rw [if_neg q, if_neg (fun z => q z.1)]
  · rw [if_neg (by decide), if_neg (by decide), if_neg (by decide), if_neg (by decide), if_neg (by decide), if_neg (by decide), if_neg (by decide), if_neg (by decide), if_neg (by decide), if_neg (by decide), if_pos rfl, if_neg (show ¬ (-7 : Int32) = -8 by decide), if_neg (show ¬ (-7 : Int32) = -18 by decide), show bop (-7) A B = if A = 0 ∨ B = 0 then 0 else 1 from rfl]
    by_cases q : A = 0
    · rw [if_pos q, if_pos (Or.inl q)]
    · rw [if_neg q]
      by_cases q2 : B = 0
      · rw [if_pos q2, if_pos (Or.inr q2)]
      · rw [if_neg q2, if_neg (fun z => z.elim q q2)]
  · rw [if_neg (by decide), if_neg (by decide), if_neg (by decide), if_neg (by decide), if_neg (by decide), if_neg (by decide), if_neg (by decide), if_neg (by decide), if_neg (by decide), if_pos rfl, if_pos (show (-8 : Int32) = -8 from rfl)]
    by_cases q : A = 0
    · rw [if_pos q, if_pos q]
    · rw [if_neg q, if_neg q]
  · exact absurd rfl h10
  · rw [if_neg (by decide), if_neg (by decide), if_neg (by decide), if_neg (by decide), if_pos rfl, if_neg (show ¬ (-13 : Int32) = -8 by decide), if_neg (show ¬ (-13 : Int32) = -18 by decide)]
    rfl
  · rw [if_neg (by decide), if_neg (by decide), if_neg (by decide), if_pos rfl, if_neg (show ¬ (-14 : Int32) = -8 by decide), if_neg (show ¬ (-14 : Int32) = -18 by decide)]
    rfl
  · rw [if_neg (by decide), if_neg (by decide), if_pos rfl, if_neg (show ¬ (-15 : Int32) = -8 by decide), if_neg (show ¬ (-15 : Int32) = -18 by decide)]
    rfl
  · rw [if_neg (by decide), if_pos rfl, if_neg (show ¬ (-16 : Int32) = -8 by decide), if_neg (show ¬ (-16 : Int32) = -18 by decide), show bop (-16) A B = if A < B then 1 else 0 from rfl]
    by_cases q : B ≤ A
    · rw [if_pos q, if_neg (fun y => by have := Int32.le_iff_toInt_le.mp q; have := Int32.lt_iff_toInt_lt.mp y; omega)]
    · rw [if_neg q, if_pos (Int32.lt_iff_toInt_lt.mpr (by
        have : ¬ B.toInt ≤ A.toInt := fun y => q (Int32.le_iff_toInt_le.mpr y)
        omega))]
  · rw [if_pos rfl, if_neg (show ¬ (-17 : Int32) = -8 by decide), if_neg (show ¬ (-17 : Int32) = -18 by decide), show bop (-17) A B = if A = B then 1 else 0 from rfl]
    by_cases q : A = B
    · rw [if_pos q, if_pos q]
    · rw [if_neg q, if_neg q]
  · rw [if_neg (by decide), if_neg (by decide), if_neg (by decide), if_neg (by decide), if_neg (by decide), if_neg (by decide), if_neg (by decide), if_neg (by decide), if_neg (by decide), if_neg (by decide), if_neg (by decide), if_neg (by decide), if_neg (show ¬ (-18 : Int32) = -8 by decide), if_pos (show (-18 : Int32) = -18 from rfl)]
end VALUE
