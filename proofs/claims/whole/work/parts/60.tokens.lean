/-! ===== the tokens of a row of letters ===== -/
def run (p : Nat → Bool) (L : Nat → Nat) : Nat → Nat → Nat
  | 0, i => i
  | k + 1, i => if p (L i) then run p L k (i + 1) else i
theorem run_ge (p : Nat → Bool) (L : Nat → Nat) : ∀ k i, i ≤ run p L k i
  | 0, i => Nat.le_refl _
  | k + 1, i => by
    unfold run
    split
    · have := run_ge p L k (i + 1); omega
    · exact Nat.le_refl _
theorem run_le (p : Nat → Bool) (L : Nat → Nat) : ∀ k i, run p L k i ≤ i + k
  | 0, i => Nat.le_refl _
  | k + 1, i => by
    unfold run
    split
    · have := run_le p L k (i + 1); omega
    · omega
theorem run_end (p : Nat → Bool) (L : Nat → Nat) : ∀ k i, run p L k i = i + k ∨ p (L (run p L k i)) = false
  | 0, i => Or.inl rfl
  | k + 1, i => by
    unfold run
    by_cases q : p (L i) = true
    · rw [if_pos q]
      rcases run_end p L k (i + 1) with h | h
      · exact Or.inl (by omega)
      · exact Or.inr h
    · rw [if_neg q]
      exact Or.inr (by simpa using q)
theorem run_in (p : Nat → Bool) (L : Nat → Nat) : ∀ k i j, i ≤ j → j < run p L k i → p (L j) = true
  | 0, i, j, h1, h2 => by unfold run at h2; omega
  | k + 1, i, j, h1, h2 => by
    unfold run at h2
    by_cases q : p (L i) = true
    · rw [if_pos q] at h2
      by_cases z : j = i
      · subst z; exact q
      · exact run_in p L k (i + 1) j (by omega) h2
    · rw [if_neg q] at h2
      omega
def ruN (p : Nat → Bool) (L : Nat → Nat) (n i : Nat) : Nat := run p L (n - i) i
theorem ruN_no {p : Nat → Bool} {L : Nat → Nat} {n i : Nat} (h : i < n → p (L i) = false) : ruN p L n i = i := by
  unfold ruN
  cases hk : n - i with
  | zero => rfl
  | succ k =>
    unfold run
    rw [if_neg (by rw [h (by omega)]; decide)]
theorem ruN_go {p : Nat → Bool} {L : Nat → Nat} {n i : Nat} (h : i < n) (h2 : p (L i) = true) : ruN p L n i = ruN p L n (i + 1) := by
  unfold ruN
  have e : n - i = (n - (i + 1)) + 1 := by omega
  rw [e]
  show (if p (L i) then run p L (n - (i + 1)) (i + 1) else i) = _
  rw [if_pos h2]
theorem ruN_ge (p : Nat → Bool) (L : Nat → Nat) (n i : Nat) : i ≤ ruN p L n i := run_ge _ _ _ _
theorem ruN_le {p : Nat → Bool} {L : Nat → Nat} {n i : Nat} (h : i ≤ n) : ruN p L n i ≤ n := by
  have := run_le p L (n - i) i
  unfold ruN
  omega
theorem ruN_in {p : Nat → Bool} {L : Nat → Nat} {n i j : Nat} (h1 : i ≤ j) (h2 : j < ruN p L n i) : p (L j) = true := run_in _ _ _ _ _ h1 h2
theorem ruN_end {p : Nat → Bool} {L : Nat → Nat} {n i : Nat} (h : i ≤ n) (h2 : ruN p L n i < n) : p (L (ruN p L n i)) = false := by
  rcases run_end p L (n - i) i with q | q
  · unfold ruN at h2; omega
  · exact q
def blk (l : Nat) : Bool := l == 32 || l == 10
def sml (l : Nat) : Bool := decide (97 ≤ l) && decide (l ≤ 122)
def dg (l : Nat) : Bool := decide (48 ≤ l) && decide (l ≤ 57)
def alb (p : Nat → Bool) : Nat → Bool
  | 0 => true
  | n + 1 => alb p n && p n
theorem alb_all {p : Nat → Bool} : ∀ n, alb p n = true → ∀ i, i < n → p i = true
  | n + 1, h, i, hi => by
    have e : alb p (n + 1) = (alb p n && p n) := rfl
    rw [e, Bool.and_eq_true] at h
    by_cases z : i = n
    · subst z; exact h.2
    · exact alb_all n h.1 i (by omega)
theorem alb_of {p : Nat → Bool} : ∀ n, (∀ i, i < n → p i = true) → alb p n = true
  | 0, _ => rfl
  | n + 1, h => by
    have e : alb p (n + 1) = (alb p n && p n) := rfl
    rw [e, alb_of n (fun i hi => h i (by omega)), h n (by omega)]
    rfl
theorem alb_no {p : Nat → Bool} {i n : Nat} (hi : i < n) (h : p i = false) : alb p n = false := by
  by_cases q : alb p n = true
  · rw [alb_all n q i hi] at h; cases h
  · simpa using q
/-- the words: goes frees draws or and not force number row column kin week -/
def wl (w i : Nat) : Int32 := (strB.getD w []).getD i 0
def wn (w : Nat) : Nat := strL.getD w 0
def isW (L : Nat → Nat) (s e w : Nat) : Bool := decide (e - s = wn w) && alb (fun i => nI (L (s + i)) == wl w i) (wn w)
def wcd (w : Nat) : Int32 := if w < 6 then -3 - nI w else nI (10000 + w - 6)
def wcode (L : Nat → Nat) (s e : Nat) : Int32 := match fs (isW L s e) 12 with
  | some w => wcd w
  | none => -2
def nvs (L : Nat → Nat) (s : Nat) : Nat → Nat
  | 0 => 0
  | k + 1 => nvs L s k * 10 + (L (s + k) - 48)
def sg (l : Nat) : Int32 := if l = 40 then -10 else if l = 41 then -11 else if l = 59 then -12 else if l = 43 then -13 else if l = 45 then -14 else if l = 42 then -15 else if l = 60 then -16 else if l = 61 then -17 else -2
def tok (L : Nat → Nat) (n i : Nat) : Int32 × Nat × Nat :=
  let s := ruN blk L n i
  if s < n then
    if sml (L s) then (wcode L s (ruN sml L n (s + 1)), s, ruN sml L n (s + 1))
    else if dg (L s) then (if ruN dg L n (s + 1) - s ≤ 4 then nI (nvs L s (ruN dg L n (s + 1) - s)) else -2, s, ruN dg L n (s + 1))
    else (sg (L s), s, s + 1)
  else (-1, n, n)
def tkp (L : Nat → Nat) (n : Nat) : Nat → Nat
  | 0 => 0
  | k + 1 => (tok L n (tkp L n k)).2.2
def tk (L : Nat → Nat) (n k : Nat) : Int32 := (tok L n (tkp L n k)).1
def ts (L : Nat → Nat) (n k : Nat) : Nat := (tok L n (tkp L n k)).2.1
theorem tok_blank {L : Nat → Nat} {n i : Nat} (h : i < n) (h2 : blk (L i) = true) : tok L n i = tok L n (i + 1) := by
  unfold tok
  rw [ruN_go h h2]
theorem nvs_lt {L : Nat → Nat} {s : Nat} : ∀ k, (∀ i, i < k → dg (L (s + i)) = true) → nvs L s k < 10 ^ k
  | 0, _ => by simp [nvs]
  | k + 1, h => by
    have ih := nvs_lt k (fun i hi => h i (by omega))
    have hd := h k (by omega)
    unfold dg at hd
    rw [Bool.and_eq_true] at hd
    have h1 := of_decide_eq_true hd.1
    have h2 := of_decide_eq_true hd.2
    simp only [nvs]
    rw [Nat.pow_succ]
    omega
theorem fs_lt12 {f : Nat → Bool} {k : Nat} (h : fs f 12 = some k) : k < 12 := fs_lt 12 h
theorem wcd_rng : ∀ w, w < 12 → (wcd w = -3 ∨ wcd w = -4 ∨ wcd w = -5 ∨ wcd w = -6 ∨ wcd w = -7 ∨ wcd w = -8 ∨ ∃ j, j < 6 ∧ wcd w = nI (10000 + j)) := by
  intro w hw
  rcases (show w = 0 ∨ w = 1 ∨ w = 2 ∨ w = 3 ∨ w = 4 ∨ w = 5 ∨ 6 ≤ w by omega) with rfl | rfl | rfl | rfl | rfl | rfl | h
  · exact Or.inl rfl
  · exact Or.inr (Or.inl rfl)
  · exact Or.inr (Or.inr (Or.inl rfl))
  · exact Or.inr (Or.inr (Or.inr (Or.inl rfl)))
  · exact Or.inr (Or.inr (Or.inr (Or.inr (Or.inl rfl))))
  · exact Or.inr (Or.inr (Or.inr (Or.inr (Or.inr (Or.inl rfl)))))
  · refine Or.inr (Or.inr (Or.inr (Or.inr (Or.inr (Or.inr ⟨w - 6, by omega, ?_⟩)))))
    unfold wcd
    rw [if_neg (by omega)]
    congr 1
    omega
/-- what codes there are -/
def isTok (t : Int32) : Prop := t = -1 ∨ t = -2 ∨ t = -3 ∨ t = -4 ∨ t = -5 ∨ t = -6 ∨ t = -7 ∨ t = -8 ∨ t = -10 ∨ t = -11 ∨ t = -12 ∨ t = -13 ∨ t = -14 ∨ t = -15 ∨ t = -16 ∨ t = -17 ∨ ∃ j, j < 10006 ∧ t = nI j
theorem sg_tok (l : Nat) : isTok (sg l) := by
  unfold sg isTok
  repeat' split
  all_goals simp
theorem tok_tok (L : Nat → Nat) (n i : Nat) : isTok (tok L n i).1 := by
  unfold tok
  dsimp only
  split
  · split
    · show isTok (wcode L _ _)
      unfold wcode
      split
      · rename_i w hw
        unfold isTok
        rcases wcd_rng w (fs_lt12 hw) with h | h | h | h | h | h | ⟨j, hj, h⟩ <;> rw [h]
        · simp
        · simp
        · simp
        · simp
        · simp
        · simp
        · refine Or.inr (Or.inr (Or.inr (Or.inr (Or.inr (Or.inr (Or.inr (Or.inr (Or.inr (Or.inr (Or.inr (Or.inr (Or.inr (Or.inr (Or.inr (Or.inr ⟨10000 + j, by omega, rfl⟩)))))))))))))))
      · unfold isTok; simp
    · split
      · rename_i h1 h2 h3
        show isTok (if _ then _ else _)
        split
        · rename_i h4
          generalize he : ruN dg L n (ruN blk L n i + 1) = e at h4
          generalize hs : ruN blk L n i = s at h1 h3 h4 he
          have hlt := nvs_lt (L := L) (s := s) (e - s) (fun j hj => by
            by_cases z : j = 0
            · subst z; exact h3
            · exact ruN_in (p := dg) (L := L) (n := n) (i := s + 1) (by omega) (by rw [he]; omega))
          have : 10 ^ (e - s) ≤ 10 ^ 4 := Nat.pow_le_pow_right (by decide) h4
          refine Or.inr (Or.inr (Or.inr (Or.inr (Or.inr (Or.inr (Or.inr (Or.inr (Or.inr (Or.inr (Or.inr (Or.inr (Or.inr (Or.inr (Or.inr (Or.inr ⟨_, ?_, rfl⟩)))))))))))))))
          omega
        · unfold isTok; simp
      · exact sg_tok _
  · unfold isTok; simp
theorem tk_tok (L : Nat → Nat) (n k : Nat) : isTok (tk L n k) := tok_tok _ _ _
theorem tok_next {L : Nat → Nat} {n i : Nat} (h : i ≤ n) : (tok L n i).2.2 ≤ n ∧ ((tok L n i).1 ≠ -1 → i < (tok L n i).2.2) := by
  have h1 := ruN_ge blk L n i
  unfold tok
  dsimp only
  split
  · rename_i hs
    split
    · have h2 := ruN_ge sml L n (ruN blk L n i + 1)
      have h3 := ruN_le (p := sml) (L := L) (n := n) (i := ruN blk L n i + 1) (by omega)
      exact ⟨h3, fun _ => by show i < ruN sml L n _; omega⟩
    · split
      · have h2 := ruN_ge dg L n (ruN blk L n i + 1)
        have h3 := ruN_le (p := dg) (L := L) (n := n) (i := ruN blk L n i + 1) (by omega)
        exact ⟨h3, fun _ => by show i < ruN dg L n _; omega⟩
      · exact ⟨by show ruN blk L n i + 1 ≤ n; omega, fun _ => by show i < ruN blk L n i + 1; omega⟩
  · exact ⟨Nat.le_refl _, fun q => absurd rfl q⟩
theorem tkp_le (L : Nat → Nat) (n : Nat) : ∀ k, tkp L n k ≤ n
  | 0 => Nat.zero_le _
  | k + 1 => (tok_next (tkp_le L n k)).1
