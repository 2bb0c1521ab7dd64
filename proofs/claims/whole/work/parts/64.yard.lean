/-! ===== the yard: how a row of tokens becomes codes ===== -/
def rk (t : Int32) : Nat := if t = -10 then 0 else if t = -6 then 1 else if t = -7 then 2 else if t = -8 then 3 else if t = -16 then 4 else if t = -17 then 4 else if t = -13 then 5 else if t = -14 then 5 else if t = -15 then 6 else if t = -18 then 7 else 9
def lr (W : List Int32) : Nat := match W with
  | [] => 0
  | t :: _ => rk t
def lgo (r : Nat) : List Int32 → Nat → List Int32 → List Int32 × Nat × List Int32
  | [], o, C => ([], o, C)
  | t :: W, o, C => if r ≤ rk t then lgo r W (if t = -8 ∨ t = -18 then o - 1 else o) (t :: C) else (t :: W, o, C)
abbrev YS : Type := Nat × Bool × List Int32 × Nat × List Int32
abbrev YO : Type := YS ⊕ (Bool × Nat × List Int32)
def jn (t : Int32) : Bool := t == -6 || t == -7 || t == -13 || t == -14 || t == -15 || t == -16 || t == -17
def ystep (T : Nat → Int32) (s : YS) : YO := match s with
  | (i, due, W, o, C) =>
    if due then
      if 0 ≤ T i then .inl (i + 1, false, W, o, T i :: C)
      else if (T i = -10 ∨ T i = -14 ∨ (T i = -8 ∧ lr W ≤ 3)) ∧ o < 5 then .inl (i + 1, true, (if T i = -14 then -18 else T i) :: W, o + 1, C)
      else .inr (false, i, C)
    else if T i = -12 then
      if (lgo 1 W o C).1 = [] then .inr (true, i + 1, (lgo 1 W o C).2.2) else .inr (false, i, (lgo 1 W o C).2.2)
    else if T i = -11 then
      match (lgo 1 W o C).1 with
      | [] => .inr (false, i, (lgo 1 W o C).2.2)
      | _ :: W' => .inl (i + 1, false, W', (lgo 1 W o C).2.1 - 1, (lgo 1 W o C).2.2)
    else if jn (T i) then
      if rk (T i) = 4 then
        if lr (lgo 5 W o C).1 = 4 then .inr (false, i, (lgo 5 W o C).2.2)
        else .inl (i + 1, true, T i :: (lgo 5 W o C).1, (lgo 5 W o C).2.1, (lgo 5 W o C).2.2)
      else .inl (i + 1, true, T i :: (lgo (rk (T i)) W o C).1, (lgo (rk (T i)) W o C).2.1, (lgo (rk (T i)) W o C).2.2)
    else .inr (false, i, C)
def yrun (T : Nat → Int32) : Nat → YS → Option (Bool × Nat × List Int32)
  | 0, _ => none
  | f + 1, s => match ystep T s with
    | .inl s' => yrun T f s'
    | .inr r => some r
/-- from here to there -/
def Rch (T : Nat → Int32) (s s' : YS) : Prop := ∃ k, s.1 + k = s'.1 ∧ ∀ f, yrun T (f + k) s = yrun T f s'
/-- from here it fails at j -/
def Rfl (T : Nat → Int32) (s : YS) (j : Nat) : Prop := ∃ k C, s.1 + k = j ∧ ∀ f, yrun T (f + k + 1) s = some (false, j, C)
theorem Rch.rf {T : Nat → Int32} {s : YS} : Rch T s s := ⟨0, rfl, fun _ => rfl⟩
theorem Rch.tr {T : Nat → Int32} {s s' s'' : YS} (h : Rch T s s') (h' : Rch T s' s'') : Rch T s s'' := by
  obtain ⟨k, a, b⟩ := h
  obtain ⟨l, c, d⟩ := h'
  exact ⟨l + k, by omega, fun f => by rw [show f + (l + k) = (f + l) + k by omega, b, d]⟩
theorem Rch.fl {T : Nat → Int32} {s s' : YS} {j : Nat} (h : Rch T s s') (h' : Rfl T s' j) : Rfl T s j := by
  obtain ⟨k, a, b⟩ := h
  obtain ⟨l, C, c, d⟩ := h'
  exact ⟨l + k, C, by omega, fun f => by rw [show f + (l + k) + 1 = (f + l + 1) + k by omega, b, d]⟩
theorem rch_1 {T : Nat → Int32} {s s' : YS} (h : ystep T s = .inl s') (h1 : s.1 + 1 = s'.1) : Rch T s s' := ⟨1, h1, fun f => by
  show (match ystep T s with | .inl s' => yrun T f s' | .inr r => some r) = _
  rw [h]⟩
theorem rfl_1 {T : Nat → Int32} {s : YS} {C : List Int32} (h : ystep T s = .inr (false, s.1, C)) : Rfl T s s.1 := ⟨0, C, rfl, fun f => by
  show (match ystep T s with | .inl s' => yrun T f s' | .inr r => some r) = _
  rw [h]⟩
/-! what waits is let go -/
def ngs : List Int32 → Nat
  | [] => 0
  | t :: W => ngs W + (if t = -8 ∨ t = -18 then 1 else 0)
theorem lgo_all {r : Nat} : ∀ (W' W : List Int32) (o : Nat) (C : List Int32), (∀ t, t ∈ W' → r ≤ rk t) → (W = [] ∨ lr W < r) → lgo r (W' ++ W) (o + ngs W') C = (W, o, W'.reverse ++ C)
  | [], W, o, C, _, h => by
    simp only [List.nil_append, ngs, Nat.add_zero, List.reverse_nil]
    cases W with
    | nil => rfl
    | cons t W =>
      rcases h with h | h
      · cases h
      · unfold lgo
        have h : rk t < r := h
        rw [if_neg (by omega)]
  | t :: W', W, o, C, h1, h2 => by
    have ht := h1 t (List.mem_cons_self ..)
    simp only [List.cons_append, ngs, List.reverse_cons, List.append_assoc]
    unfold lgo
    rw [if_pos ht]
    have e : (if t = -8 ∨ t = -18 then o + (ngs W' + (if t = -8 ∨ t = -18 then 1 else 0)) - 1 else o + (ngs W' + (if t = -8 ∨ t = -18 then 1 else 0))) = o + ngs W' := by
      by_cases q : t = -8 ∨ t = -18
      · rw [if_pos q, if_pos q]; omega
      · rw [if_neg q, if_neg q]; omega
    rw [e, lgo_all W' W o (t :: C) (fun x hx => h1 x (List.mem_cons_of_mem _ hx)) h2]
    rfl
theorem ngs_app : ∀ (A B : List Int32), ngs (A ++ B) = ngs A + ngs B
  | [], B => by simp [ngs]
  | t :: A, B => by simp only [List.cons_append, ngs]; rw [ngs_app A B]; omega
/-! codes evaluated -/
def bop (c a b : Int32) : Int32 := if c = -6 then (if a = 0 ∧ b = 0 then 0 else 1) else if c = -7 then (if a = 0 ∨ b = 0 then 0 else 1) else if c = -16 then (if a < b then 1 else 0) else if c = -17 then (if a = b then 1 else 0) else if c = -13 then a + b else if c = -14 then a - b else a * b
def estep (F : Nat → Int32) (st : List Int32) (c : Int32) : List Int32 :=
  if 0 ≤ c then (if c < 10000 then c else F (c - 10000).toNatClampNeg) :: st
  else if c = -8 then (match st with | a :: r => (if a = 0 then 1 else 0) :: r | [] => [0, 0])
  else if c = -18 then (match st with | a :: r => (-a) :: r | [] => [0, 0])
  else (match st with | b :: a :: r => bop c a b :: r | r => 0 :: 0 :: r)
def evc (F : Nat → Int32) (c : List Int32) (st : List Int32) : List Int32 := c.foldl (estep F) st
theorem evc_app (F : Nat → Int32) (a b st : List Int32) : evc F (a ++ b) st = evc F b (evc F a st) := List.foldl_append
theorem evc_one (F : Nat → Int32) (c : Int32) (st : List Int32) : evc F [c] st = estep F st c := rfl
