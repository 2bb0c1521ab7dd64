theorem if_le_lit {α : Type} {n k : Nat} {L : Int32} (hL : L = nI k) (hn : n < 2147483648) (hk : k < 2147483648) (x y : α) : (if nI n ≤ L then x else y) = if n ≤ k then x else y := by
  subst hL
  by_cases q : n ≤ k
  · rw [if_pos ((nI_leI hn hk).mpr q), if_pos q]
  · rw [if_neg (fun z => q ((nI_leI hn hk).mp z)), if_neg q]
theorem if_eq_lit {α : Type} {n k : Nat} {L : Int32} (hL : L = nI k) (hn : n < 2147483648) (hk : k < 2147483648) (x y : α) : (if nI n = L then x else y) = if n = k then x else y := by
  subst hL
  by_cases q : n = k
  · rw [if_pos (by rw [q]), if_pos q]
  · rw [if_neg (fun z => q (nI_inj hn hk z)), if_neg q]
theorem dv2 : ∀ v, v < 10 → nI v / 2 = nI (v / 2) ∧ cl9 (nI v + 1) = min 9 (v + 1) ∧ cl9 (2 * (nI v + 1)) = min 9 (2 * (v + 1)) := by decide +kernel
section GC
variable {σ : Mem} {b : Nat} {S : FS}
theorem far_ok (hb : isFl b) (h : CR σ b S) {d c : Nat} (hd : d < sN S) (hc : sA S d = some c) : ∃ σ', fX0_far b (nI d) σ = some (nI (farS S d c), σ') ∧ SQ σ σ' := by
  have hn := h.n
  obtain ⟨σ1, ht0, q1⟩ := telling_ok hb h hd hc (part := 0) (by decide)
  have ht : fX0_telling b 0 (nI d) σ = some (sV S 0 (fct S d c), σ1) := ht0
  have h1 := h.sq hb q1
  have g8 : inB (nI d) 8 = true := inB_nI (by omega) (by decide)
  have hv := cl9_le (sV S 0 (fct S d c))
  obtain ⟨a1, a2, a3⟩ := dv2 (cl9 (sV S 0 (fct S d c))) (by omega)
  refine ⟨σ1, ?_, q1⟩
  unfold fX0_far
  rw [ht, bnd_s, bounded_ok, bn1_s, gd_of g8, rd_nI (by omega), (h1.2.2.2.2.1 d hd).1]
  have hk := (h.1.2.1 d hd).1
  unfold farS
  rcases (show sK S d = 0 ∨ sK S d = 1 ∨ sK S d = 2 ∨ sK S d = 3 ∨ sK S d = 4 ∨ sK S d = 5 by omega) with e | e | e | e | e | e <;> rw [e] <;> simp only []
  · rw [if_pos (by decide)]
  · rw [if_neg (by decide), if_pos (by decide), a1]
  · rw [if_neg (by decide), if_neg (by decide), if_pos (by decide), bounded_ok, bn1_s, a2]
  · rw [if_neg (by decide), if_neg (by decide), if_neg (by decide), if_pos (by decide), kin_ok h1 hd, bn1_s]
    have hk2 := kinS_le S d
    rw [if_eq_lit (L := 1) (k := 1) rfl (by omega) (by decide)]
    by_cases q : kinS S d = 1
    · rw [if_pos q, if_pos q]; rfl
    · rw [if_neg q, if_neg q, a1]
  · rw [if_neg (by decide), if_neg (by decide), if_neg (by decide), if_neg (by decide), if_pos (by decide), bounded_ok, bn1_s, a3]
  · rw [if_neg (by decide), if_neg (by decide), if_neg (by decide), if_neg (by decide), if_neg (by decide), h1.2.2.2.1]
    have hF := h.1.2.2.2
    rw [if_le_lit (L := 5) (k := 5) rfl (by omega) (by decide)]
    by_cases q : 5 < sF S
    · rw [if_neg (by omega), if_pos q, gd_of g8, rd_nI (by omega), (h1.2.2.2.2.1 d hd).2.1]
    · rw [if_pos (by omega), if_neg q]; rfl
theorem isFree_ok (hb : isFl b) (h : CR σ b S) {d c : Nat} (hd : d < sN S) (hc : sA S d = some c) : ∃ σ', fX0_isFree b (nI d) σ = some (if freeS S d c then 1 else 0, σ') ∧ SQ σ σ' := by
  have hn := h.n
  obtain ⟨σ1, ht0, q1⟩ := telling_ok hb h hd hc (part := 1) (by decide)
  have ht : fX0_telling b 1 (nI d) σ = some (sV S 1 (fct S d c), σ1) := ht0
  have g8 : inB (nI d) 8 = true := inB_nI (by omega) (by decide)
  unfold fX0_isFree
  rw [gd_of g8, rd_nI (by omega), (h.2.2.2.2.1 d hd).1]
  have hk := (h.1.2.1 d hd).1
  have hF := h.1.2.2.2
  have hW := h.1.2.2.1
  unfold freeS
  rcases (show sK S d = 0 ∨ sK S d = 1 ∨ sK S d = 2 ∨ sK S d = 3 ∨ sK S d = 4 ∨ sK S d = 5 by omega) with e | e | e | e | e | e <;> rw [e] <;> simp only []
  · refine ⟨σ1, ?_, q1⟩
    rw [if_pos (by decide), ht, bnd_s]
    by_cases q : sV S 1 (fct S d c) = 0
    · simp [q]
    · simp [q]
  · exact ⟨σ, by rw [if_neg (by decide), if_pos (by decide)]; rfl, SQ.rf⟩
  · exact ⟨σ, by rw [if_neg (by decide), if_neg (by decide), if_pos (by decide)]; rfl, SQ.rf⟩
  · refine ⟨σ, ?_, SQ.rf⟩
    rw [if_neg (by decide), if_neg (by decide), if_neg (by decide), if_pos (by decide), h.2.2.2.1]
    rw [if_eq_lit (L := 9) (k := 9) rfl (by omega) (by decide)]
    by_cases q : sF S = 9
    · rw [if_pos q]; simp [q]
    · rw [if_neg q]; simp [q]
  · refine ⟨σ, ?_, SQ.rf⟩
    rw [if_neg (by decide), if_neg (by decide), if_neg (by decide), if_neg (by decide), if_pos (by decide), h.2.2.1]
    have hr : nI (sW S) - nI (sW S) / 2 * 2 = nI (sW S % 2) := pk_rem (d := 2) (by omega) (by decide) (by decide)
    rw [hr]
    rcases Nat.mod_two_eq_zero_or_one (sW S) with q | q
    · rw [q]; simp; rfl
    · rw [q]; simp
      intro z
      exact absurd z (by decide)
  · refine ⟨σ1, ?_, q1⟩
    rw [if_neg (by decide), if_neg (by decide), if_neg (by decide), if_neg (by decide), if_neg (by decide), ht, bnd_s]
    by_cases q : sV S 1 (fct S d c) = 0
    · simp [q]
    · simp [q]
theorem way_ok (hb : isFl b) (h : CR σ b S) {d c : Nat} (hd : d < sN S) (hc : sA S d = some c) : ∃ σ', fX0_way b (nI d) σ = some (nI (wayS S d c), σ') ∧ SQ σ σ' := by
  have hn := h.n
  obtain ⟨σ1, ht0, q1⟩ := telling_ok hb h hd hc (part := 2) (by decide)
  have ht : fX0_telling b 2 (nI d) σ = some (sV S 2 (fct S d c), σ1) := ht0
  have h1 := h.sq hb q1
  have g8 : inB (nI d) 8 = true := inB_nI (by omega) (by decide)
  have hm := m5_lt (sV S 2 (fct S d c))
  refine ⟨σ1, ?_, q1⟩
  unfold fX0_way
  rw [ht, bnd_s, floorMod_ok, bn1_s, gd_of g8, rd_nI (by omega), (h1.2.2.2.2.1 d hd).1]
  have hk := (h.1.2.1 d hd).1
  unfold wayS
  rcases (show sK S d = 0 ∨ sK S d = 1 ∨ sK S d = 2 ∨ sK S d = 3 ∨ sK S d = 4 ∨ sK S d = 5 by omega) with e | e | e | e | e | e <;> rw [e] <;> simp only []
  · rw [if_pos (by decide)]
  · rw [if_neg (by decide), if_pos (by decide)]; rfl
  · rw [if_neg (by decide), if_neg (by decide), if_pos (by decide)]
  · rw [if_neg (by decide), if_neg (by decide), if_neg (by decide), if_pos (by decide)]; rfl
  · rw [if_neg (by decide), if_neg (by decide), if_neg (by decide), if_neg (by decide), if_pos (by decide), otherWay_ok σ1 hm, bn1_s]
  · rw [if_neg (by decide), if_neg (by decide), if_neg (by decide), if_neg (by decide), if_neg (by decide), gd_of g8, rd_nI (by omega), (h1.2.2.2.2.1 d hd).2.1]
    have hU := (h.1.2.1 d hd).2.1
    rw [if_le_lit (L := 4) (k := 4) rfl (by omega) (by decide)]
    by_cases q : 4 < sU S d
    · rw [if_neg (by omega), if_pos q]
    · rw [if_pos (by omega), if_neg q]; rfl
end GC
theorem line_36 : ∀ c, c < 36 → ∀ s, s < 24 → fX0_isInLine (nI c) (nI s) zeroM = some (if lineS s c then 1 else 0) := by decide +kernel
theorem isInLine_ok (σ : Mem) {c s : Nat} (hc : c < 36) (hs : s < 24) : fX0_isInLine (nI c) (nI s) σ = some (if lineS s c then 1 else 0) := (rfl : fX0_isInLine (nI c) (nI s) σ = fX0_isInLine (nI c) (nI s) zeroM).trans (line_36 c hc s hs)
theorem isInLine_out (σ : Mem) (s : Int32) : fX0_isInLine (-1) s σ = some 0 := rfl
theorem step_36 : ∀ c, c < 36 → ∀ w, w < 5 → fX0_stepped (nI c) (nI w) zeroM = some (enc (stepS c w)) := by decide +kernel
theorem stepped_ok (σ : Mem) {c w : Nat} (hc : c < 36) (hw : w < 5) : fX0_stepped (nI c) (nI w) σ = some (enc (stepS c w)) := (rfl : fX0_stepped (nI c) (nI w) σ = fX0_stepped (nI c) (nI w) zeroM).trans (step_36 c hc w hw)
theorem swept_loop {σ : Mem} {b : Nat} {S : FS} (h : CR σ b S) {a1 : Int32} {w n : Nat} (hw : w < 5) (hn : n < 1000) : ∀ (k c i fuel : Nat), c < 36 → i + k = n → k < fuel → loopN (fX0_swept_L6 b a1 (nI w) (nI n) σ) fuel (nI c, nI i) = some (enc (swpS (sC S) w k c)) := by
  intro k
  induction k with
  | zero =>
    intro c i fuel hc hi hf
    cases fuel with
    | zero => omega
    | succ f =>
      show fX0_swept_L6 b a1 (nI w) (nI n) σ _ (nI c, nI i) = _
      unfold fX0_swept_L6
      dsimp only
      rw [if_pos (nI_le (by omega) (by omega))]
      rfl
  | succ k ih =>
    intro c i fuel hc hi hf
    cases fuel with
    | zero => omega
    | succ f =>
      show fX0_swept_L6 b a1 (nI w) (nI n) σ _ (nI c, nI i) = _
      unfold fX0_swept_L6
      dsimp only
      rw [if_neg (nI_ge (by omega) (by omega)), stepped_ok σ hc hw, bn1_s]
      unfold swpS
      cases hs : stepS c w with
      | none => rw [if_pos (show enc none = -1 from rfl)]
      | some c' =>
        have hc' := stepS_lt hc hs
        dsimp only
        rw [if_neg (fun z => by have := (enc_none (a := some c') (fun x hx => by cases hx; exact hc')).mp z; cases this)]
        rw [show enc (some c') = nI c' from rfl, isCracked_ok h hc', bn1_s]
        by_cases q : sC S c' = true
        · rw [if_pos q, if_neg (by decide), if_pos q]; rfl
        · rw [if_neg q, if_pos rfl, if_neg q, nI_1]
          exact ih c' (i + 1) f hc' (by omega) (by omega)
theorem swept_ok {σ : Mem} {b : Nat} {S : FS} (h : CR σ b S) {c w n : Nat} (hc : c < 36) (hw : w < 5) (hn : n < 999) : fX0_swept b (nI c) (nI w) (nI n) σ = some (enc (swpS (sC S) w n c)) := by
  have := swept_loop (a1 := nI c) h hw (n := n) (by omega) n c 0 1000 hc (by omega) (by omega)
  exact this
