/-! ===== the abstract floor: how many, kinds, numbers, where, cracks, week, force, what THE RULE says ===== -/
abbrev FS : Type := Nat × (Nat → Nat) × (Nat → Nat) × (Nat → Option Nat) × (Nat → Bool) × Nat × Nat × (Nat → (Nat → Int32) → Int32)
def sN (S : FS) : Nat := S.1
def sK (S : FS) : Nat → Nat := S.2.1
def sU (S : FS) : Nat → Nat := S.2.2.1
def sA (S : FS) : Nat → Option Nat := S.2.2.2.1
def sC (S : FS) : Nat → Bool := S.2.2.2.2.1
def sW (S : FS) : Nat := S.2.2.2.2.2.1
def sF (S : FS) : Nat := S.2.2.2.2.2.2.1
def sV (S : FS) : Nat → (Nat → Int32) → Int32 := S.2.2.2.2.2.2.2
def enc (o : Option Nat) : Int32 := match o with
  | none => -1
  | some c => nI c
def cut6 (f : Nat → Int32) : Nat → Int32 := fun k => if k < 6 then f k else 0
def okS (S : FS) : Prop := sN S ≤ 8 ∧ (∀ d, d < sN S → sK S d < 6 ∧ sU S d < 10 ∧ ∀ c, sA S d = some c → c < 36) ∧ sW S ≤ 1100 ∧ sF S < 10
theorem enc_eq {a b : Option Nat} (ha : ∀ c, a = some c → c < 36) (hb : ∀ c, b = some c → c < 36) : enc a = enc b ↔ a = b := by
  constructor
  · intro h
    match a, b with
    | none, none => rfl
    | none, some c =>
      have hc := hb c rfl
      exact absurd (show nI c = -1 from h.symm) (by intro q; have := congrArg Int32.toInt q; rw [nI_toInt (by omega)] at this; simp at this)
    | some c, none =>
      have hc := ha c rfl
      exact absurd (show nI c = -1 from h) (by intro q; have := congrArg Int32.toInt q; rw [nI_toInt (by omega)] at this; simp at this)
    | some c, some d =>
      have hc := ha c rfl
      have hd := hb d rfl
      rw [nI_inj (by omega) (by omega) h]
  · rintro rfl; rfl
theorem enc_none {a : Option Nat} (ha : ∀ c, a = some c → c < 36) : enc a = -1 ↔ a = none := enc_eq (b := none) ha (fun c h => by cases h)
theorem enc_some {a : Option Nat} {k : Nat} (ha : ∀ c, a = some c → c < 36) (hk : k < 36) : enc a = nI k ↔ a = some k := enc_eq (b := some k) ha (fun c h => by cases h; exact hk)
/-! who is where, and how many -/
def whoS (S : FS) (o : Option Nat) : Nat := mkb (fun d => sA S d == o) (sN S)
def kinS (S : FS) (d : Nat) : Nat := cnt (fun e => sA S e == sA S d) (sN S)
def outS (S : FS) : Nat := cnt (fun e => sA S e == none) (sN S)
def fct (S : FS) (d c : Nat) : Nat → Int32 := fun k => match k with
  | 0 => nI (sF S)
  | 1 => nI (sU S d)
  | 2 => nI (c / 6)
  | 3 => nI (c % 6)
  | 4 => nI (kinS S d)
  | 5 => nI (sW S)
  | _ => 0
def cl9 (v : Int32) : Nat := if v.toInt < 0 then 0 else if 9 < v.toInt then 9 else v.toInt.toNat
def farS (S : FS) (d c : Nat) : Nat :=
  let v := cl9 (sV S 0 (fct S d c))
  match sK S d with
  | 0 => v
  | 1 => v / 2
  | 2 => min 9 (v + 1)
  | 3 => if kinS S d = 1 then 0 else v / 2
  | 4 => min 9 (2 * (v + 1))
  | _ => if 5 < sF S then sU S d else 0
def freeS (S : FS) (d c : Nat) : Bool :=
  match sK S d with
  | 0 => sV S 1 (fct S d c) != 0
  | 1 => false
  | 2 => true
  | 3 => sF S == 9
  | 4 => sW S % 2 == 0
  | _ => sV S 1 (fct S d c) == 0
def m5 (v : Int32) : Nat := (v.toInt % 5).toNat
def othS (w : Nat) : Nat := if w = 0 then 0 else if w % 2 = 1 then w + 1 else w - 1
def wayS (S : FS) (d c : Nat) : Nat :=
  match sK S d with
  | 0 => m5 (sV S 2 (fct S d c))
  | 1 => 0
  | 2 => m5 (sV S 2 (fct S d c))
  | 3 => 0
  | 4 => othS (m5 (sV S 2 (fct S d c)))
  | _ => if 4 < sU S d then m5 (sV S 2 (fct S d c)) else 0
/-- one cell a way -/
def stepS (c w : Nat) : Option Nat :=
  match w with
  | 1 => if c % 6 = 5 then none else some (c + 1)
  | 2 => if c % 6 = 0 then none else some (c - 1)
  | 3 => if c / 6 = 5 then none else some (c + 6)
  | 4 => if c / 6 = 0 then none else some (c - 6)
  | _ => some c
/-- swept on from a cell, n more -/
def swpS (cr : Nat → Bool) (w : Nat) : Nat → Nat → Option Nat
  | 0, c => some c
  | n + 1, c => match stepS c w with
    | none => none
    | some c' => if cr c' then some c' else swpS cr w n c'
def lineS (s c : Nat) : Bool := if s < 12 then c / 6 == s / 2 else c % 6 == (s - 12) / 2
def swayS (s : Nat) : Nat := (if s < 12 then 1 else 3) + s % 2
def strkS (S : FS) (s d : Nat) : Option Nat :=
  match sA S d with
  | none => none
  | some c => if lineS s c && (!sC S c || freeS S d c) then swpS (sC S) (swayS s) (farS S d c) c else some c
def wkS (S : FS) (d : Nat) : Option Nat :=
  match sA S d with
  | none => none
  | some c => if !sC S c || freeS S d c then stepS c (wayS S d c) else some c
def setA (S : FS) (f : Nat → Option Nat) : FS := (sN S, sK S, sU S, f, sC S, sW S, sF S, sV S)
def setW (S : FS) (w : Nat) : FS := (sN S, sK S, sU S, sA S, sC S, w, sF S, sV S)
def strokeS (S : FS) (s : Nat) : FS := setA S (strkS S s)
def weekS (S : FS) : FS := setW (setA S (wkS S)) (sW S + 1)
/-- how many came to be out -/
def newOut (S T : FS) : Nat := cnt (fun d => sA S d != none && sA T d == none) (sN S)
theorem kinS_le (S : FS) (d : Nat) : kinS S d ≤ sN S := cnt_le _ _
theorem cl9_le (v : Int32) : cl9 v ≤ 9 := by
  unfold cl9
  split
  · omega
  · split <;> omega
theorem farS_le (S : FS) (d c : Nat) (h : okS S) (hd : d < sN S) : farS S d c ≤ 9 := by
  have h1 := cl9_le (sV S 0 (fct S d c))
  have h2 := (h.2.1 d hd).2.1
  unfold farS
  dsimp only
  split <;> first | omega | (split <;> omega)
theorem stepS_lt {c w c' : Nat} (hc : c < 36) (h : stepS c w = some c') : c' < 36 := by
  unfold stepS at h
  split at h <;> first | (split at h <;> simp at h <;> omega) | (simp at h; omega)
theorem swpS_lt {cr : Nat → Bool} {w : Nat} : ∀ {n c c' : Nat}, c < 36 → swpS cr w n c = some c' → c' < 36
  | 0, c, c', hc, h => by simp [swpS] at h; omega
  | n + 1, c, c', hc, h => by
    unfold swpS at h
    split at h
    · cases h
    · rename_i d hd
      have := stepS_lt hc hd
      split at h
      · simp at h; omega
      · exact swpS_lt this h
theorem strkS_lt {S : FS} (h : okS S) {s d c : Nat} (hd : d < sN S) (hs : strkS S s d = some c) : c < 36 := by
  unfold strkS at hs
  split at hs
  · cases hs
  · rename_i c0 hc0
    have := (h.2.1 d hd).2.2 c0 hc0
    split at hs
    · exact swpS_lt this hs
    · simp at hs; omega
theorem wkS_lt {S : FS} (h : okS S) {d c : Nat} (hd : d < sN S) (hs : wkS S d = some c) : c < 36 := by
  unfold wkS at hs
  split at hs
  · cases hs
  · rename_i c0 hc0
    have := (h.2.1 d hd).2.2 c0 hc0
    split at hs
    · exact stepS_lt this hs
    · simp at hs; omega
theorem okS_stroke {S : FS} (h : okS S) (s : Nat) : okS (strokeS S s) := ⟨h.1, fun d hd => ⟨(h.2.1 d hd).1, (h.2.1 d hd).2.1, fun c hc => strkS_lt h hd hc⟩, h.2.2⟩
theorem okS_week {S : FS} (h : okS S) (hw : sW S < 1100) : okS (weekS S) := ⟨h.1, fun d hd => ⟨(h.2.1 d hd).1, (h.2.1 d hd).2.1, fun c hc => wkS_lt h hd hc⟩, hw, h.2.2.2⟩
theorem outS_le (S : FS) : outS S ≤ sN S := cnt_le _ _
