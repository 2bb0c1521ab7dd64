/-! ===== the sheets ===== -/
theorem m40 (k : Nat) : (40 : Int32) * nI k = nI (40 * k) := pk_mul 40 k
theorem m3x (k : Nat) : (3 : Int32) * nI k = nI (3 * k) := pk_mul 3 k
theorem clampN {k : Nat} (hk : k < 4) : (nI k).toNatClampNeg = k := nI_clamp (by omega)
theorem sh_scr : ∀ k, k < 4 → scr (32 + 2 * k) = false ∧ scr (33 + 2 * k) = false := by decide
theorem mr_rows {τ τ' : Mem} {S : FS} (h : MR τ S) (q : ∀ j, j < 9 → τ'.1 j = τ.1 j) : MR τ' S := by
  obtain ⟨h0, h1, h2, h3, h4, h5, ρ, hρ, h6, h7⟩ := h
  have q0 := q 0 (by decide)
  refine ⟨h0, by rw [q0]; exact h1, by rw [q0]; exact h2, by rw [q0]; exact h3, fun d hd => ?_, fun c hc => by rw [q 4 (by decide)]; exact h5 c hc, ρ, hρ, by rw [q0]; exact h6, h7.mono (fun i hi => by rw [q 1 (by decide)]) (by rw [q 2 (by decide)])⟩
  rw [q 5 (by decide), q 6 (by decide), q 7 (by decide)]
  exact h4 d hd
/-- one sheet is another one, and what a call in thought writes -/
theorem rel_sheet {σ τ σ' τ' : Mem} {S : FS} {k : Nat} (h : RelS σ τ S) (hk : k < 4) (c : CR σ' 40 S) (m : MR τ' S) (p : ∀ j, scr j = false → ¬ (40 ≤ j ∧ j < 45) → ¬ (52 ≤ j ∧ j < 57) → ¬ (58 ≤ j ∧ j < 63) → j ≠ 32 + 2 * k → j ≠ 33 + 2 * k → σ'.1 j = σ.1 j) (p2 : ∀ j, j ≠ 40 → j ≠ 52 → j ≠ 58 → σ'.2 j = σ.2 j) (q : ∀ j, j = 1 ∨ j = 2 ∨ j = 3 ∨ j = 10 ∨ j = 11 ∨ j = 12 → τ'.1 j = τ.1 j) (q0 : ∀ k, msc k = false → k ≠ 4 → k ≠ 7 → k ≠ 8 → k ≠ 13 → k ≠ 31 → τ'.1 0 k = τ.1 0 k) (q3 : ∀ e, e < 4 → e ≠ k → τ'.1 13 e = τ.1 13 e ∧ τ'.1 14 e = τ.1 14 e ∧ τ'.1 15 e = τ.1 15 e ∧ ∀ i, i < 40 → τ'.1 16 (40 * e + i) = τ.1 16 (40 * e + i)) (s : SHR σ' τ' k) : RelS σ' τ' S := by
  obtain ⟨T, VV, _, _, hw, hρ, h1, h2, h3, h4⟩ := h
  have tx : ∀ t, t < 6 → σ'.1 (9 + 4 * t) = σ.1 (9 + 4 * t) ∧ σ'.1 (10 + 4 * t) = σ.1 (10 + 4 * t) := fun t ht => by
    obtain ⟨s1, s2, s3, s4⟩ := scr_tx t ht
    exact ⟨p _ s2 (by omega) (by omega) (by omega) (by omega) (by omega), p _ s3 (by omega) (by omega) (by omega) (by omega) (by omega)⟩
  have c0 := p 0 rfl (by omega) (by omega) (by omega) (by omega) (by omega)
  refine ⟨T, VV, c, m, hw, hρ, h1.go (by rw [c0]) tx (q0 3 rfl (by decide) (by decide) (by decide) (by decide) (by decide)) (q 1 (by omega)) (q 2 (by omega)), h2.go (by rw [p 3 rfl (by omega) (by omega) (by omega) (by omega) (by omega)]) (p 4 rfl (by omega) (by omega) (by omega) (by omega) (by omega)) (q0 6 rfl (by decide) (by decide) (by decide) (by decide) (by decide)) (q 3 (by omega)), fun e he => ?_, ?_⟩
  · by_cases z : e = k
    · subst z; exact s
    · obtain ⟨s1, s2⟩ := sh_scr e he
      obtain ⟨a, b, d, f⟩ := q3 e he z
      exact (h3 e he).go (p _ s1 (by omega) (by omega) (by omega) (by omega) (by omega)) (p _ s2 (by omega) (by omega) (by omega) (by omega) (by omega)) a b d f
  · rcases h4 with ⟨a, b⟩ | ⟨a, K, k1, ⟨i1, i2, i3, i4, i5, i6⟩, k3, k4, k5, k6⟩
    · exact Or.inl ⟨by rw [c0]; exact a, by rw [q0 35 rfl (by decide) (by decide) (by decide) (by decide) (by decide)]; exact b⟩
    · refine Or.inr ⟨by rw [c0]; exact a, K, k1.same (p _ rfl (by omega) (by omega) (by omega) (by omega) (by omega)) (p _ rfl (by omega) (by omega) (by omega) (by omega) (by omega)) (p _ rfl (by omega) (by omega) (by omega) (by omega) (by omega)) (p _ rfl (by omega) (by omega) (by omega) (by omega) (by omega)) (by rw [p2 46 (by decide) (by decide) (by decide)]) tx, ⟨by rw [q0 35 rfl (by decide) (by decide) (by decide) (by decide) (by decide)]; exact i1, by rw [q0 36 rfl (by decide) (by decide) (by decide) (by decide) (by decide)]; exact i2, by rw [q0 37 rfl (by decide) (by decide) (by decide) (by decide) (by decide)]; exact i3, fun d hd => by rw [q 11 (by omega), q 12 (by omega)]; exact i4 d hd, fun c hc => by rw [q 10 (by omega)]; exact i5 c hc, by rw [q0 38 rfl (by decide) (by decide) (by decide) (by decide) (by decide)]; exact i6⟩, k3, k4, k5, k6⟩
/-- the same, where rows of that sheet alone are written -/
theorem rel_sheet1 {σ τ σ' τ' : Mem} {S : FS} {k : Nat} (h : RelS σ τ S) (hk : k < 4) (p : ∀ j, j ≠ 32 + 2 * k → j ≠ 33 + 2 * k → σ'.1 j = σ.1 j) (p2 : σ'.2 = σ.2) (q : ∀ j, j < 13 → τ'.1 j = τ.1 j) (q3 : ∀ e, e < 4 → e ≠ k → τ'.1 13 e = τ.1 13 e ∧ τ'.1 14 e = τ.1 14 e ∧ τ'.1 15 e = τ.1 15 e ∧ ∀ i, i < 40 → τ'.1 16 (40 * e + i) = τ.1 16 (40 * e + i)) (s : SHR σ' τ' k) : RelS σ' τ' S :=
  rel_sheet h hk (h.c.same (p _ (by omega) (by omega)) (p _ (by omega) (by omega)) (p _ (by omega) (by omega)) (p _ (by omega) (by omega)) (by rw [p2]) (fun t ht => ⟨p _ (by omega) (by omega), p _ (by omega) (by omega)⟩)) (mr_rows h.m (fun j hj => q j (by omega))) (fun j _ _ _ _ a b => p j a b) (fun j _ _ _ => by rw [p2]) (fun j hj => q j (by omega)) (fun i _ _ _ _ _ _ => by rw [q 0 (by decide)]) q3 s
theorem clamp40 : ∀ m, m < 41 → (if 0 < (if nI m < 40 then nI m else 40) then (if nI m < 40 then nI m else 40) else 0) = nI m := by decide +kernel
theorem make_ok (σ : Mem) {k : Nat} (hk : k < 4) (s : Int32) {m : Nat} (hm : m ≤ 40) : ∃ F, fX2_make (32 + 2 * k) s (nI m) σ = some F ∧ ((∀ i, i < 40 → F.1 (33 + 2 * k) i = 0) ∧ F.1 (32 + 2 * k) 1 = s ∧ F.1 (32 + 2 * k) 2 = nI m ∧ (∀ j, j ≠ 32 + 2 * k → j ≠ 33 + 2 * k → F.1 j = σ.1 j) ∧ F.2 = σ.2) := by
  unfold fX2_make
  have e33 : 32 + 2 * k + 1 = 33 + 2 * k := by omega
  refine loop_in (b := fX2_make_L2 (32 + 2 * k) s (nI m)) (fun i v => v.2 = nI i ∧ (∀ j, j ≠ 33 + 2 * k → v.1.1 j = σ.1 j) ∧ v.1.2 = σ.2 ∧ ∀ e, e < i → v.1.1 (33 + 2 * k) e = 0) _ 40 ?_ ?_ 1000 0 (σ, 0) (Nat.zero_le _) (by omega) ⟨rfl, fun _ _ => rfl, rfl, fun d hd => by omega⟩
  · rintro i ⟨σi, y⟩ hi ⟨hy, hr, h2, hd⟩
    dsimp only at hy hr h2 hd
    subst hy
    refine ⟨(putI σi (33 + 2 * k) i 0, nI (i + 1)), fun ih => ?_, rfl, fun j a => ?_, h2, fun e he => ?_⟩
    · unfold fX2_make_L2
      dsimp only
      rw [if_neg (show ¬ (40 : Int32) ≤ nI i from nI_ge (b := 40) (by omega) (by omega)), gd_of (inB_nI hi (by decide)), stp_e, wr_nI (by omega), nI_1, e33]
    · rw [putI_row _ _ _ _ a]; exact hr j a
    · rw [putI_at]
      by_cases z : e = i
      · subst z; rw [if_pos ⟨rfl, rfl⟩]
      · rw [if_neg (fun w => z w.2)]; exact hd e (by omega)
  · rintro ⟨σi, y⟩ ⟨hy, hr, h2, hd⟩
    dsimp only at hy hr h2 hd
    subst hy
    refine ⟨putI (putI σi (32 + 2 * k) 1 s) (32 + 2 * k) 2 (nI m), fun ih => ?_, fun i hi => ?_, ?_, ?_, fun j a b => ?_, h2⟩
    · unfold fX2_make_L2 fX2_make_b21
      dsimp only
      rw [if_pos (show (40 : Int32) ≤ nI 40 by decide), stp_e, clamp40 m (by omega), stp_e]
    · rw [putI_row _ _ _ _ (by omega), putI_row _ _ _ _ (by omega)]; exact hd i hi
    · rw [putI_fld _ _ _ _ (by decide), putI_self]
    · rw [putI_self]
    · rw [putI_row _ _ _ _ a, putI_row _ _ _ _ a]; exact hr j b
/-- the model's sheet becomes a row of n -/
theorem msheet_loop (τ : Mem) {k s m : Nat} (hk : k < 4) (hs : s < 3) (hm : m ≤ 40) : ∃ r, loopN (fX5_sheet_L77 (nI k) (nI s) (nI m)) 1000 (τ, 0) = some r ∧ (r.1 = 1 ∧ (∀ j, j ≠ 16 → r.2.1 j = τ.1 j) ∧ ∀ x, r.2.1 16 x = if 40 * k ≤ x ∧ x < 40 * k + m then 0 else τ.1 16 x) := by
  refine loop_in (b := fX5_sheet_L77 (nI k) (nI s) (nI m)) (fun i v => v.2 = nI i ∧ (∀ j, j ≠ 16 → v.1.1 j = τ.1 j) ∧ ∀ x, v.1.1 16 x = if 40 * k ≤ x ∧ x < 40 * k + i then 0 else τ.1 16 x) _ m ?_ ?_ 1000 0 (τ, 0) (Nat.zero_le _) (by omega) ⟨rfl, fun _ _ => rfl, fun x => by rw [if_neg (by omega)]⟩
  · rintro i ⟨τi, y⟩ hi ⟨hy, hr, hd⟩
    dsimp only at hy hr hd
    subst hy
    refine ⟨(putI τi 16 (40 * k + i) 0, nI (i + 1)), fun ih => ?_, rfl, fun j a => ?_, fun x => ?_⟩
    · unfold fX5_sheet_L77
      dsimp only
      rw [if_neg (nI_ge hi (by omega)), if_neg (nI_pos (by omega)), m40, nI_add, gd_of (inB_nI (by omega) (by omega)), stp_e, wr_nI (by omega), nI_1]
    · rw [putI_row _ _ _ _ a]; exact hr j a
    · rw [putI_at]
      by_cases z : x = 40 * k + i
      · rw [if_pos ⟨rfl, z⟩, if_pos (by omega)]
      · rw [if_neg (fun w => z w.2), hd x]
        by_cases w : 40 * k ≤ x ∧ x < 40 * k + i
        · rw [if_pos w, if_pos (by omega)]
        · rw [if_neg w, if_neg (by omega)]
  · rintro ⟨τi, y⟩ ⟨hy, hr, hd⟩
    dsimp only at hy hr hd
    subst hy
    refine ⟨(1, τi), fun ih => ?_, rfl, hr, hd⟩
    unfold fX5_sheet_L77
    dsimp only
    rw [if_pos (nI_le (Nat.le_refl _) (by omega))]
theorem msheet_ok (τ : Mem) {k s m : Nat} (hk : k < 4) (hs : s < 3) (hm : m ≤ 40) : ∃ F, fX5_sheet (nI k) (nI s) (nI m) τ = some (1, F) ∧ ((∀ j, j < 13 → F.1 j = τ.1 j) ∧ (∀ e, e ≠ k → F.1 13 e = τ.1 13 e ∧ F.1 14 e = τ.1 14 e ∧ F.1 15 e = τ.1 15 e) ∧ F.1 13 k = 1 ∧ F.1 14 k = nI s ∧ F.1 15 k = nI m ∧ ∀ x, F.1 16 x = if 40 * k ≤ x ∧ x < 40 * k + m then 0 else τ.1 16 x) := by
  have g : inB (nI k) 4 = true := inB_nI hk (by decide)
  have n0 : ¬ nI s < 0 := nI_pos (by omega)
  obtain ⟨r, e, r1, r2, r3⟩ := msheet_loop (putI (putI (putI τ 13 k 1) 14 k (nI s)) 15 k (nI m)) hk hs hm
  refine ⟨r.2, ?_, fun j hj => ?_, fun x hx => ⟨?_, ?_, ?_⟩, ?_, ?_, ?_, fun x => ?_⟩
  · unfold fX5_sheet fX5_sheet_b34 fX5_sheet_b45 fX5_sheet_b59
    rw [isSheet5, bn1_s, in_I τ (nI s) (-1) 2 (p := -1) (q := 2) rfl rfl, bn1_s, if_pos (show 0 ≤ (nI k).toInt ∧ (nI k).toInt ≤ 3 by rw [nI_toInt (by omega)]; omega), if_neg (show ¬ (1 : Int32) = 0 by decide), if_pos (show -1 ≤ (nI s).toInt ∧ (nI s).toInt ≤ 2 by rw [nI_toInt (by omega)]; omega), if_neg (show ¬ (1 : Int32) = 0 by decide), if_neg n0, if_pos (show nI m ≤ 40 from nI_le (b := 40) hm (by omega)), if_neg n0, if_pos (nI_pos' (by omega)), if_neg n0, gd_of g, stp_e, wr_nI (by omega), gd_of g, stp_e, wr_nI (by omega), gd_of g, stp_e, wr_nI (by omega), show vp_nar .boolean 1 = 1 from rfl, e, ← r1]
  · rw [r2 j (by omega), putI_row _ _ _ _ (by omega), putI_row _ _ _ _ (by omega), putI_row _ _ _ _ (by omega)]
  · rw [r2 13 (by decide), putI_row _ _ _ _ (by decide), putI_row _ _ _ _ (by decide), putI_fld _ _ _ _ hx]
  · rw [r2 14 (by decide), putI_row _ _ _ _ (by decide), putI_fld _ _ _ _ hx, putI_row _ _ _ _ (by decide)]
  · rw [r2 15 (by decide), putI_fld _ _ _ _ hx, putI_row _ _ _ _ (by decide), putI_row _ _ _ _ (by decide)]
  · rw [r2 13 (by decide), putI_row _ _ _ _ (by decide), putI_row _ _ _ _ (by decide), putI_self]
  · rw [r2 14 (by decide), putI_row _ _ _ _ (by decide), putI_self]
  · rw [r2 15 (by decide), putI_self]
  · rw [r3 x, putI_row _ _ _ _ (by decide), putI_row _ _ _ _ (by decide), putI_row _ _ _ _ (by decide)]
theorem st_sheet : St_sheet Rel := by
  rintro a1 a2 a3 σ τ ⟨S, h⟩
  dsimp only
  by_cases q1 : 0 ≤ a1.toInt ∧ a1.toInt ≤ 3
  · obtain ⟨k, hk, _, rfl⟩ := of_rng q1
    have hk : k < 4 := by omega
    have g : inB (nI k) 4 = true := inB_nI hk (by decide)
    by_cases q2 : -1 ≤ a2.toInt ∧ a2.toInt ≤ 2
    · have hC : fX4_sheet (nI k) a2 a3 σ = if a2 = -1 then bn1 (fX2_make (32 + 2 * k) (-1) 0 σ) fun σ8 => some (1, σ8) else if a3 ≤ 40 then if 0 ≤ a3 then bn1 (fX2_make (32 + 2 * k) a2 a3 σ) fun σ4 => some (1, σ4) else some (-14, σ) else some (-2, σ) := by
        unfold fX4_sheet
        rw [isSheet4, bn1_s, if_pos q1, if_neg (show ¬ (1 : Int32) = 0 by decide), within_I σ a2 (-1) 2 (p := -1) (q := 2) rfl rfl, bn1_s, if_pos q2, if_neg (show ¬ (1 : Int32) = 0 by decide)]
        simp only [gd_of g, clampN hk]
      by_cases q3 : a2 = -1
      · subst q3
        rw [if_pos rfl] at hC
        obtain ⟨F, e, f1, f2, f3, f4, f5⟩ := make_ok σ hk (-1) (m := 0) (by omega)
        rw [show (0 : Int32) = nI 0 from rfl, e, bn1_s] at hC
        have hM : fX5_sheet (nI k) (-1) a3 τ = some (1, putI (putI (putI τ 13 k 0) 14 k (-1)) 15 k a3) := by
          unfold fX5_sheet fX5_sheet_b34 fX5_sheet_b45 fX5_sheet_b59
          rw [isSheet5, bn1_s, if_pos q1, if_neg (show ¬ (1 : Int32) = 0 by decide), in_I τ (-1) (-1) 2 (p := -1) (q := 2) rfl rfl, bn1_s, if_neg (by decide), if_pos (by decide), if_pos (by decide), if_pos (by decide), gd_of g, stp_e, wr_nI (by omega), gd_of g, stp_e, wr_nI (by omega), gd_of g, stp_e, wr_nI (by omega), show vp_nar .boolean 0 = 0 from rfl]
          generalize putI (putI (putI τ 13 k 0) 14 k (-1)) 15 k a3 = τ1
          show fX5_sheet_L77 (nI k) (-1) a3 (loopN (fX5_sheet_L77 (nI k) (-1) a3) 999) (τ1, 0) = _
          generalize loopN (fX5_sheet_L77 (nI k) (-1) a3) 999 = K
          unfold fX5_sheet_L77
          dsimp only
          by_cases z : a3 ≤ 0
          · rw [if_pos z]
          · rw [if_neg z, if_pos (by decide)]
        refine ⟨1, F, _, hC, hM, S, rel_sheet1 h hk f4 f5 (fun j hj => by rw [putI_row _ _ _ _ (by omega), putI_row _ _ _ _ (by omega), putI_row _ _ _ _ (by omega)]) (fun e he hne => ⟨?_, ?_, ?_, fun i hi => ?_⟩) (Or.inl ⟨f2, ?_⟩)⟩
        · rw [putI_row _ _ _ _ (by decide), putI_row _ _ _ _ (by decide), putI_fld _ _ _ _ hne]
        · rw [putI_row _ _ _ _ (by decide), putI_fld _ _ _ _ hne, putI_row _ _ _ _ (by decide)]
        · rw [putI_fld _ _ _ _ hne, putI_row _ _ _ _ (by decide), putI_row _ _ _ _ (by decide)]
        · rw [putI_row _ _ _ _ (by decide), putI_row _ _ _ _ (by decide), putI_row _ _ _ _ (by decide)]
        · rw [putI_row _ _ _ _ (by decide), putI_row _ _ _ _ (by decide), putI_self]
      · have q2' : 0 ≤ a2.toInt ∧ a2.toInt ≤ 2 := ⟨by
          by_cases y : a2.toInt = -1
          · exact absurd (Int32.toInt_inj.mp (by rw [y]; rfl)) q3
          · omega, q2.2⟩
        obtain ⟨s, hs, _, rfl⟩ := of_rng q2'
        have hs : s < 3 := by omega
        rw [if_neg q3] at hC
        have n0 : ¬ nI s < 0 := nI_pos (by omega)
        have hM : fX5_sheet (nI k) (nI s) a3 τ = if a3 ≤ 40 then fX5_sheet_b34 (nI k) (nI s) a3 τ else some (-2, τ) := by
          unfold fX5_sheet
          rw [isSheet5, bn1_s, if_pos q1, if_neg (show ¬ (1 : Int32) = 0 by decide), in_I τ (nI s) (-1) 2 (p := -1) (q := 2) rfl rfl, bn1_s, if_pos q2, if_neg (show ¬ (1 : Int32) = 0 by decide), if_neg n0]
        by_cases q4 : a3 ≤ 40
        · rw [if_pos q4] at hC hM
          by_cases q5 : 0 ≤ a3
          · have q5' := Int32.le_iff_toInt_le.mp q5
            have q4' := Int32.le_iff_toInt_le.mp q4
            have z0 : (0 : Int32).toInt = 0 := rfl
            have z40 : (40 : Int32).toInt = 40 := rfl
            obtain ⟨m, hm, _, rfl⟩ := of_rng (a := a3) (q := 40) (by omega)
            rw [if_pos q5] at hC
            obtain ⟨F, e, f1, f2, f3, f4, f5⟩ := make_ok σ hk (nI s) (m := m) (by omega)
            obtain ⟨G, e', g1, g2, g3, g4, g5, g6⟩ := msheet_ok τ hk hs (m := m) (by omega)
            rw [e, bn1_s] at hC
            refine ⟨1, F, G, hC, e', S, rel_sheet1 h hk f4 f5 g1 (fun x hx hne => ⟨(g2 x hne).1, (g2 x hne).2.1, (g2 x hne).2.2, fun i hi => by rw [g6, if_neg (by omega)]⟩) (Or.inr ⟨s, m, hs, by omega, f2, g3, g4, f3, g5, fun i hi => ?_⟩)⟩
            rw [f1 i (by omega), g6, if_pos (by omega)]
          · rw [if_neg q5] at hC
            unfold fX5_sheet_b34 at hM
            rw [if_neg n0, if_neg q5] at hM
            exact ⟨-14, σ, τ, hC, hM, h.rel⟩
        · rw [if_neg q4] at hC hM
          exact ⟨-2, σ, τ, hC, hM, h.rel⟩
    · refine ⟨-2, σ, τ, ?_, ?_, h.rel⟩
      · unfold fX4_sheet
        rw [isSheet4, bn1_s, if_pos q1, if_neg (show ¬ (1 : Int32) = 0 by decide), within_I σ a2 (-1) 2 (p := -1) (q := 2) rfl rfl, bn1_s, if_neg q2, if_pos rfl]
      · unfold fX5_sheet
        rw [isSheet5, bn1_s, if_pos q1, if_neg (show ¬ (1 : Int32) = 0 by decide), in_I τ a2 (-1) 2 (p := -1) (q := 2) rfl rfl, bn1_s, if_neg q2, if_pos rfl]
  · refine ⟨-2, σ, τ, ?_, ?_, h.rel⟩
    · unfold fX4_sheet
      rw [isSheet4, bn1_s, if_neg q1, if_pos rfl]
    · unfold fX5_sheet
      rw [isSheet5, bn1_s, if_neg q1, if_pos rfl]
/-! an item -/
theorem miss4 {σ τ : Mem} {k : Nat} (h : σ.1 (32 + 2 * k) 1 = -1 ∧ τ.1 13 k = 0) : fX2_isMissing (32 + 2 * k) σ = some 1 := by
  unfold fX2_isMissing
  rw [h.1, if_pos rfl]
theorem there4 {σ : Mem} {k s : Nat} (hs : s < 3) (h : σ.1 (32 + 2 * k) 1 = nI s) : fX2_isMissing (32 + 2 * k) σ = some 0 := by
  unfold fX2_isMissing
  rw [h, if_neg (fun z => by have := congrArg Int32.toInt z; rw [nI_toInt (by omega)] at this; simp at this)]
def nar3 (s : Nat) (v : Int32) : Int32 := if s = 0 then v.toInt8.toInt32 else if s = 1 then v.toInt16.toInt32 else v
theorem put_ok (σ : Mem) {k s n i : Nat} (hs : s < 3) (hn : n ≤ 40) (h1 : σ.1 (32 + 2 * k) 1 = nI s) (h2 : σ.1 (32 + 2 * k) 2 = nI n) (hi : i < n) (v : Int32) : fX2_put (32 + 2 * k) (nI i) v σ = some (1, putI σ (33 + 2 * k) i (nar3 s v)) := by
  have e33 : 32 + 2 * k + 1 = 33 + 2 * k := by omega
  have g : inB (nI i) 40 = true := inB_nI (by omega) (by decide)
  unfold fX2_put nar3
  rw [if_neg (nI_pos (by omega)), h2, if_pos (nI_lt hi (by omega)), h1]
  rcases (show s = 0 ∨ s = 1 ∨ s = 2 by omega) with rfl | rfl | rfl
  · rw [if_pos (by decide), gd_of g, stp_e, wr_nI (by omega), if_pos rfl, e33]
  · rw [if_neg (by decide), if_pos (by decide), gd_of g, stp_e, wr_nI (by omega), if_neg (by decide), if_pos rfl, e33]
  · rw [if_neg (by decide), if_neg (by decide), gd_of g, stp_e, wr_nI (by omega), if_neg (by decide), if_neg (by decide), e33]
theorem st_cell : St_cell Rel := by
  rintro a1 a2 a3 σ τ ⟨S, h⟩
  dsimp only
  unfold fX4_cell fX5_cell
  rw [isSheet4, isSheet5, bn1_s, bn1_s]
  by_cases q1 : 0 ≤ a1.toInt ∧ a1.toInt ≤ 3
  · obtain ⟨k, hk, _, rfl⟩ := of_rng q1
    have hk : k < 4 := by omega
    have g : inB (nI k) 4 = true := inB_nI hk (by decide)
    rw [if_pos q1, if_neg (show ¬ (1 : Int32) = 0 by decide), if_neg (show ¬ (1 : Int32) = 0 by decide)]
    simp only [gd_of g, clampN hk, rd_nI (show k < 2147483648 by omega)]
    rcases h.sh hk with hmiss | ⟨s, n, a1, a2', a3', a4, a5, a6, a7, a8⟩
    · rw [miss4 hmiss, bn1_s, if_neg (by decide), hmiss.2, if_pos rfl]
      exact ⟨_, _, _, rfl, rfl, h.rel⟩
    · rw [there4 a1 a3', bn1_s, if_pos rfl, a4, if_neg (by decide), a7, in_I τ a2 0 ((nI n - 1).toInt64) (p := 0) (q := (n : Int) - 1) rfl (by rw [Int32.toInt_toInt64]; exact nI_m1 (by omega)), bn1_s]
      by_cases q2 : 0 ≤ a2.toInt ∧ a2.toInt ≤ (n : Int) - 1
      · obtain ⟨i, hi, _, rfl⟩ := of_rng q2
        have hi : i < n := by omega
        have gi : inB (nI (40 * k + i)) 160 = true := inB_nI (by omega) (by decide)
        have hM : (if nI s = 0 then gd (inB (40 * nI k + nI i) 160) (stp (wr τ 16 (40 * nI k + nI i) a3.toInt8.toInt32) fun σw9 => some ((1 : Int32), σw9)) else if nI s = 1 then gd (inB (40 * nI k + nI i) 160) (stp (wr τ 16 (40 * nI k + nI i) a3.toInt16.toInt32) fun σw5 => some (1, σw5)) else gd (inB (40 * nI k + nI i) 160) (stp (wr τ 16 (40 * nI k + nI i) a3) fun σw3 => some (1, σw3))) = some (1, putI τ 16 (40 * k + i) (nar3 s a3)) := by
          rw [m40, nI_add]
          simp only [gd_of gi, stp_e, wr_nI (show 40 * k + i < 2147483648 by omega)]
          unfold nar3
          rcases (show s = 0 ∨ s = 1 ∨ s = 2 by omega) with rfl | rfl | rfl
          · rw [if_pos (by decide), if_pos rfl]
          · rw [if_neg (by decide), if_pos (by decide), if_neg (by decide), if_pos rfl]
          · rw [if_neg (by decide), if_neg (by decide), if_neg (by decide), if_neg (by decide)]
        rw [put_ok σ a1 a2' a3' a6 hi, bnd_s, if_neg (by decide), if_pos q2, if_neg (by decide), a5, hM]
        refine ⟨1, _, _, rfl, rfl, S, rel_sheet1 h hk (fun j _ b => putI_row _ _ _ _ b) rfl (fun j hj => putI_row _ _ _ _ (by omega)) (fun e he hne => ⟨by rw [putI_row _ _ _ _ (by decide)], by rw [putI_row _ _ _ _ (by decide)], by rw [putI_row _ _ _ _ (by decide)], fun x hx => putI_fld _ _ _ _ (by omega)⟩) (Or.inr ⟨s, n, a1, a2', by rw [putI_row _ _ _ _ (by omega)]; exact a3', by rw [putI_row _ _ _ _ (by decide)]; exact a4, by rw [putI_row _ _ _ _ (by decide)]; exact a5, by rw [putI_row _ _ _ _ (by omega)]; exact a6, by rw [putI_row _ _ _ _ (by decide)]; exact a7, fun x hx => ?_⟩)⟩
        by_cases z : x = i
        · subst z; rw [putI_self, putI_self]
        · rw [putI_fld _ _ _ _ z, putI_fld _ _ _ _ (by omega)]; exact a8 x hx
      · rw [if_neg q2, if_pos rfl]
        refine ⟨-12, σ, τ, ?_, rfl, h.rel⟩
        unfold fX2_put
        rw [a6]
        by_cases y : a2 < 0
        · rw [if_pos y, bnd_s, if_pos rfl]
        · rw [if_neg y, if_neg (fun w => q2 ⟨by
            have : ¬ a2.toInt < (0 : Int32).toInt := fun z => y (Int32.lt_iff_toInt_lt.mpr z)
            have z0 : (0 : Int32).toInt = 0 := rfl
            omega, by
            have := Int32.lt_iff_toInt_lt.mp w
            rw [nI_toInt (by omega)] at this
            omega⟩), bnd_s, if_pos rfl]
  · rw [if_neg q1, if_pos rfl, if_pos rfl]
    exact ⟨-2, σ, τ, rfl, rfl, h.rel⟩
