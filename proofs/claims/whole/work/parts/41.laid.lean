/-! ===== the model lays aside and back ===== -/
def QM (τ τ' : Mem) : Prop := (∀ j, j ≠ 0 → j ≠ 7 → j ≠ 8 → j ≠ 9 → τ'.1 j = τ.1 j) ∧ (∀ d, d < 8 → τ'.1 7 d = τ.1 7 d) ∧ (∀ k, msc k = false → k ≠ 31 → τ'.1 0 k = τ.1 0 k)
def LA (τ0 τ : Mem) : Prop := (∀ j, j ≠ 0 → j ≠ 7 → j ≠ 8 → j ≠ 9 → τ.1 j = τ0.1 j) ∧ (∀ d, d < 8 → τ.1 9 d = τ0.1 7 d) ∧ (∀ k, msc k = false → k ≠ 7 → k ≠ 31 → τ.1 0 k = τ0.1 0 k) ∧ τ.1 0 31 = τ0.1 0 7
theorem QM.rf {τ : Mem} : QM τ τ := ⟨fun _ _ _ _ _ => rfl, fun _ _ => rfl, fun _ _ _ => rfl⟩
theorem QM.tr {τ τ' τ'' : Mem} (h : QM τ τ') (h' : QM τ' τ'') : QM τ τ'' := ⟨fun j a b c d => (h'.1 j a b c d).trans (h.1 j a b c d), fun d hd => (h'.2.1 d hd).trans (h.2.1 d hd), fun k a b => (h'.2.2 k a b).trans (h.2.2 k a b)⟩
theorem LA.fm {τ0 τ τ' : Mem} (h : LA τ0 τ) (q : FM τ τ') : LA τ0 τ' := ⟨fun j a b c d => (q.1 j a b c).trans (h.1 j a b c d), fun d hd => by rw [q.1 9 (by decide) (by decide) (by decide)]; exact h.2.1 d hd, fun k a b c => (q.2.1 k a b).trans (h.2.2.1 k a b c), by rw [q.2.1 31 rfl (by decide)]; exact h.2.2.2⟩
theorem MR.qm {τ τ' : Mem} {S : FS} (h : MR τ S) (q : QM τ τ') : MR τ' S := by
  have hn := h.n
  obtain ⟨h0, h1, h2, h3, h4, h5, ρ, hρ, h6, h7⟩ := h
  refine ⟨h0, by rw [q.2.2 13 rfl (by decide)]; exact h1, by rw [q.2.2 7 rfl (by decide)]; exact h2, by rw [q.2.2 8 rfl (by decide)]; exact h3, fun d hd => ?_, fun c hc => by rw [q.1 4 (by decide) (by decide) (by decide) (by decide)]; exact h5 c hc, ρ, hρ, by rw [q.2.2 4 rfl (by decide)]; exact h6, h7.mono (fun i hi => by rw [q.1 1 (by decide) (by decide) (by decide) (by decide)]) (by rw [q.1 2 (by decide) (by decide) (by decide) (by decide)])⟩
  rw [q.1 5 (by decide) (by decide) (by decide) (by decide), q.1 6 (by decide) (by decide) (by decide) (by decide), q.2.1 d (by omega)]
  exact h4 d hd
theorem laysAside_ok (τ : Mem) : ∃ τ', fX5_laysAside τ = some τ' ∧ QM τ τ' ∧ LA τ τ' := by
  unfold fX5_laysAside
  refine loop_in (b := fX5_laysAside_L2) (fun i v => v.2 = nI i ∧ (∀ j, j ≠ 9 → v.1.1 j = τ.1 j) ∧ ∀ d, d < i → v.1.1 9 d = τ.1 7 d) (fun r => QM τ r ∧ LA τ r) 8 ?_ ?_ 1000 0 (τ, 0) (Nat.zero_le _) (by omega) ⟨rfl, fun _ _ => rfl, fun d hd => by omega⟩
  · rintro i ⟨τi, y⟩ hi ⟨hy, hr, hd⟩
    dsimp only at hy hr hd
    subst hy
    have g8 : inB (nI i) 8 = true := inB_nI (by omega) (by omega)
    refine ⟨(putI τi 9 i (τ.1 7 i), nI (i + 1)), fun ih => ?_, rfl, fun j hj => ?_, fun d hd2 => ?_⟩
    · unfold fX5_laysAside_L2
      dsimp only
      rw [if_neg (show ¬ (8 : Int32) ≤ nI i from nI_ge (b := 8) (by omega) (by omega)), gd_of g8, gd_of g8, stp_e, rd_nI (by omega), hr 7 (by decide), wr_nI (by omega), nI_1]
    · rw [putI_row _ _ _ _ hj]; exact hr j hj
    · rw [putI_at]
      by_cases e : d = i
      · subst e; rw [if_pos ⟨rfl, rfl⟩]
      · rw [if_neg (fun q => e q.2)]; exact hd d (by omega)
  · rintro ⟨τi, y⟩ ⟨hy, hr, hd⟩
    dsimp only at hy hr hd
    subst hy
    have h0 := hr 0 (by decide)
    have e31 : ∀ k, (putI τi 0 31 (τ.1 0 7)).1 0 k = if k = 31 then τ.1 0 7 else τ.1 0 k := fun k => by
      rw [putI_at, h0]; by_cases e : k = 31 <;> simp [e]
    refine ⟨putI τi 0 31 (τ.1 0 7), fun ih => ?_, ⟨fun j a b c d => ?_, fun d hd2 => ?_, fun k a b => ?_⟩, fun j a b c d => ?_, fun d hd2 => ?_, fun k a b c => ?_, ?_⟩
    · unfold fX5_laysAside_L2
      dsimp only
      rw [if_pos (show (8 : Int32) ≤ nI 8 by decide), stp_e, h0]
    · rw [putI_row _ _ _ _ a]; exact hr j d
    · rw [putI_row _ _ _ _ (by decide)]; rw [hr 7 (by decide)]
    · rw [e31, if_neg b]
    · rw [putI_row _ _ _ _ a]; exact hr j d
    · rw [putI_row _ _ _ _ (by decide)]; exact hd d hd2
    · rw [e31, if_neg c]
    · rw [e31, if_pos rfl]
theorem laysBack_ok {τ0 τ : Mem} (h : LA τ0 τ) : ∃ τ', fX5_laysBack τ = some τ' ∧ QM τ0 τ' ∧ LA τ0 τ' := by
  unfold fX5_laysBack
  refine loop_in (b := fX5_laysBack_L2) (fun i v => v.2 = nI i ∧ (∀ j, j ≠ 7 → v.1.1 j = τ.1 j) ∧ ∀ d, d < i → v.1.1 7 d = τ0.1 7 d) (fun r => QM τ0 r ∧ LA τ0 r) 8 ?_ ?_ 1000 0 (τ, 0) (Nat.zero_le _) (by omega) ⟨rfl, fun _ _ => rfl, fun d hd => by omega⟩
  · rintro i ⟨τi, y⟩ hi ⟨hy, hr, hd⟩
    dsimp only at hy hr hd
    subst hy
    have g8 : inB (nI i) 8 = true := inB_nI (by omega) (by omega)
    refine ⟨(putI τi 7 i (τ0.1 7 i), nI (i + 1)), fun ih => ?_, rfl, fun j hj => ?_, fun d hd2 => ?_⟩
    · unfold fX5_laysBack_L2
      dsimp only
      rw [if_neg (show ¬ (8 : Int32) ≤ nI i from nI_ge (b := 8) (by omega) (by omega)), gd_of g8, gd_of g8, stp_e, rd_nI (by omega), hr 9 (by decide), h.2.1 i hi, wr_nI (by omega), nI_1]
    · rw [putI_row _ _ _ _ hj]; exact hr j hj
    · rw [putI_at]
      by_cases e : d = i
      · subst e; rw [if_pos ⟨rfl, rfl⟩]
      · rw [if_neg (fun q => e q.2)]; exact hd d (by omega)
  · rintro ⟨τi, y⟩ ⟨hy, hr, hd⟩
    dsimp only at hy hr hd
    subst hy
    have h0 := hr 0 (by decide)
    have e7 : ∀ k, (putI τi 0 7 (τ0.1 0 7)).1 0 k = if k = 7 then τ0.1 0 7 else τ.1 0 k := fun k => by
      rw [putI_at, h0]; by_cases e : k = 7 <;> simp [e]
    refine ⟨putI τi 0 7 (τ0.1 0 7), fun ih => ?_, ⟨fun j a b c d => ?_, fun d hd2 => ?_, fun k a b => ?_⟩, fun j a b c d => ?_, fun d hd2 => ?_, fun k a b c => ?_, ?_⟩
    · unfold fX5_laysBack_L2
      dsimp only
      rw [if_pos (show (8 : Int32) ≤ nI 8 by decide), stp_e, h0, h.2.2.2]
    · rw [putI_row _ _ _ _ a, hr j b]; exact h.1 j a b c d
    · rw [putI_row _ _ _ _ (by decide)]; exact hd d hd2
    · rw [e7]
      by_cases e : k = 7
      · rw [if_pos e, e]
      · rw [if_neg e]; exact h.2.2.1 k a e b
    · rw [putI_row _ _ _ _ a, hr j b]; exact h.1 j a b c d
    · rw [putI_row _ _ _ _ (by decide), hr 9 (by decide)]; exact h.2.1 d hd2
    · rw [e7, if_neg b]; exact h.2.2.1 k a b c
    · rw [e7, if_neg (by decide)]; exact h.2.2.2
/-! ===== frames of a whole call ===== -/
def PC (σ σ' : Mem) : Prop := (∀ j, scr j = false → (∀ k, k < 5 → j ≠ 40 + k ∧ j ≠ 52 + k ∧ j ≠ 58 + k) → σ'.1 j = σ.1 j) ∧ (∀ j, j ≠ 40 → j ≠ 52 → j ≠ 58 → σ'.2 j = σ.2 j)
def PM (τ τ' : Mem) : Prop := (∀ j, j ≠ 0 → j ≠ 4 → j ≠ 5 → j ≠ 6 → j ≠ 7 → j ≠ 8 → j ≠ 9 → τ'.1 j = τ.1 j) ∧ (∀ k, msc k = false → k ≠ 4 → k ≠ 7 → k ≠ 8 → k ≠ 13 → k ≠ 31 → τ'.1 0 k = τ.1 0 k)
theorem PC.rf {σ : Mem} : PC σ σ := ⟨fun _ _ _ => rfl, fun _ _ _ _ => rfl⟩
theorem PC.tr {σ σ' σ'' : Mem} (h : PC σ σ') (h' : PC σ' σ'') : PC σ σ'' := ⟨fun j a b => (h'.1 j a b).trans (h.1 j a b), fun j a b c => (h'.2 j a b c).trans (h.2 j a b c)⟩
theorem FR.pc {σ σ' : Mem} {b : Nat} (hb : b = 40 ∨ b = 52 ∨ b = 58) (h : FR b σ σ') : PC σ σ' := ⟨fun j a k => h.1 j a (fun i hi => by have := k i hi; rcases hb with rfl | rfl | rfl <;> omega), fun j a c d => h.2 j (by omega)⟩
theorem SQ.pc {σ σ' : Mem} (h : SQ σ σ') : PC σ σ' := ⟨fun j a _ => h.1 j a, fun j _ _ _ => by rw [h.2]⟩
theorem PC.put {σ σ' : Mem} (h : PC σ σ') {j k : Nat} {v : Int32} (hj : (40 ≤ j ∧ j < 45) ∨ (52 ≤ j ∧ j < 57) ∨ (58 ≤ j ∧ j < 63)) : PC σ (putI σ' j k v) := ⟨fun i a b => by
  rw [putI_row σ' j k v (fun e => by
    subst e
    rcases hj with q | q | q
    · exact (b (i - 40) (by omega)).1 (by omega)
    · exact (b (i - 52) (by omega)).2.1 (by omega)
    · exact (b (i - 58) (by omega)).2.2 (by omega))]
  exact h.1 i a b, h.2⟩
theorem PC.putl {σ σ' : Mem} (h : PC σ σ') {j k : Nat} {v : Int64} (hj : j = 40 ∨ j = 52 ∨ j = 58) : PC σ (putL σ' j k v) := ⟨h.1, fun i a b c => by rw [putL_row σ' j k v (by omega)]; exact h.2 i a b c⟩
theorem PM.rf {τ : Mem} : PM τ τ := ⟨fun _ _ _ _ _ _ _ _ => rfl, fun _ _ _ _ _ _ _ => rfl⟩
theorem PM.tr {τ τ' τ'' : Mem} (h : PM τ τ') (h' : PM τ' τ'') : PM τ τ'' := ⟨fun j a b c d e f g => (h'.1 j a b c d e f g).trans (h.1 j a b c d e f g), fun k a b c d e f => (h'.2 k a b c d e f).trans (h.2 k a b c d e f)⟩
theorem FM.pm {τ τ' : Mem} (h : FM τ τ') : PM τ τ' := ⟨fun j a _ _ _ b c _ => h.1 j a b c, fun k a _ b _ _ _ => h.2.1 k a b⟩
theorem QM.pm {τ τ' : Mem} (h : QM τ τ') : PM τ τ' := ⟨fun j a _ _ _ b c d => h.1 j a b c d, fun k a _ _ _ _ b => h.2.2 k a b⟩
theorem SY.pm {τ τ' : Mem} {x : Nat} (hx : x = 0 ∨ x = 7 ∨ x = 8) (h : SY x τ τ') : PM τ τ' := (h.fm hx).pm
theorem PM.put {τ τ' : Mem} (h : PM τ τ') {j k : Nat} {v : Int32} (hj : 4 ≤ j ∧ j ≤ 9) : PM τ (putI τ' j k v) := ⟨fun i a b c d e f g => by rw [putI_row τ' j k v (by omega)]; exact h.1 i a b c d e f g, fun i a b c d e f => by rw [putI_row τ' j k v (by omega)]; exact h.2 i a b c d e f⟩
theorem PM.fld {τ τ' : Mem} (h : PM τ τ') {k : Nat} {v : Int32} (hk : k = 4 ∨ k = 7 ∨ k = 8 ∨ k = 13 ∨ k = 31) : PM τ (putI τ' 0 k v) := ⟨fun i a b c d e f g => by rw [putI_row τ' 0 k v a]; exact h.1 i a b c d e f g, fun i a b c d e f => by rw [putI_at, if_neg (by omega)]; exact h.2 i a b c d e f⟩
