/-! ===== the image ===== -/
theorem TXR.go {σ τ σ' τ' : Mem} {T : Nat} {VV : VT} (h : TXR σ τ T VV) (c0 : σ'.1 0 7 = σ.1 0 7) (ct : ∀ t, t < 6 → σ'.1 (9 + 4 * t) = σ.1 (9 + 4 * t) ∧ σ'.1 (10 + 4 * t) = σ.1 (10 + 4 * t)) (m3 : τ'.1 0 3 = τ.1 0 3) (r1 : τ'.1 1 = τ.1 1) (r2 : τ'.1 2 = τ.1 2) : TXR σ' τ' T VV := by
  obtain ⟨t1, t2, t3, t4, t5⟩ := h
  exact ⟨t1, t2, by rw [c0]; exact t3, by rw [m3]; exact t4, fun t ht => ⟨(t5 t ht).1.mono (ct t (by omega)).1 (ct t (by omega)).2, (t5 t ht).2.mono (fun i hi => by rw [r1]) (by rw [r2])⟩⟩
theorem TPR.go {σ τ σ' τ' : Mem} (h : TPR σ τ) (c3 : σ'.1 3 0 = σ.1 3 0) (c4 : σ'.1 4 = σ.1 4) (m6 : τ'.1 0 6 = τ.1 0 6) (r3 : τ'.1 3 = τ.1 3) : TPR σ' τ' := by
  obtain ⟨n, n1, n2, n3, n4⟩ := h
  exact ⟨n, n1, by rw [c3]; exact n2, by rw [m6]; exact n3, fun i hi => by rw [c4, r3]; exact n4 i hi⟩
theorem SHR.go {σ τ σ' τ' : Mem} {k : Nat} (h : SHR σ τ k) (c1 : σ'.1 (32 + 2 * k) = σ.1 (32 + 2 * k)) (c2 : σ'.1 (33 + 2 * k) = σ.1 (33 + 2 * k)) (r13 : τ'.1 13 k = τ.1 13 k) (r14 : τ'.1 14 k = τ.1 14 k) (r15 : τ'.1 15 k = τ.1 15 k) (r16 : ∀ i, i < 40 → τ'.1 16 (40 * k + i) = τ.1 16 (40 * k + i)) : SHR σ' τ' k := by
  rcases h with ⟨a, b⟩ | ⟨s, m, a1, a2, a3, a4, a5, a6, a7, a8⟩
  · exact Or.inl ⟨by rw [c1]; exact a, by rw [r13]; exact b⟩
  · exact Or.inr ⟨s, m, a1, a2, by rw [c1]; exact a3, by rw [r13]; exact a4, by rw [r14]; exact a5, by rw [c1]; exact a6, by rw [r15]; exact a7, fun i hi => by rw [c2, r16 i (by omega)]; exact a8 i hi⟩
theorem ki_pm {τ τ' : Mem} {K : FS} (h : KI τ K) (q : PM τ τ') : KI τ' K := by
  obtain ⟨i1, i2, i3, i4, i5, i6⟩ := h
  have r10 := q.1 10 (by decide) (by decide) (by decide) (by decide) (by decide) (by decide) (by decide)
  have r11 := q.1 11 (by decide) (by decide) (by decide) (by decide) (by decide) (by decide) (by decide)
  have r12 := q.1 12 (by decide) (by decide) (by decide) (by decide) (by decide) (by decide) (by decide)
  exact ⟨by rw [q.2 35 rfl (by decide) (by decide) (by decide) (by decide) (by decide)]; exact i1, by rw [q.2 36 rfl (by decide) (by decide) (by decide) (by decide) (by decide)]; exact i2, by rw [q.2 37 rfl (by decide) (by decide) (by decide) (by decide) (by decide)]; exact i3, fun d hd => by rw [r11, r12]; exact i4 d hd, fun c hc => by rw [r10]; exact i5 c hc, by rw [q.2 38 rfl (by decide) (by decide) (by decide) (by decide) (by decide)]; exact i6⟩
theorem image_L28_ok (τ : Mem) : ∃ r, loopN fX5_image_L28 1000 (τ, 0) = some r ∧ (r.1 = τ.1 0 13 ∧ (∀ j, j ≠ 0 → j ≠ 11 → j ≠ 12 → r.2.1 j = τ.1 j) ∧ (∀ d, d < 8 → r.2.1 11 d = τ.1 6 d ∧ r.2.1 12 d = τ.1 7 d) ∧ (∀ k, k ≠ 35 → k ≠ 36 → k ≠ 37 → k ≠ 38 → r.2.1 0 k = τ.1 0 k) ∧ r.2.1 0 35 = τ.1 0 13 ∧ r.2.1 0 36 = τ.1 0 7 ∧ r.2.1 0 37 = τ.1 0 8 ∧ r.2.1 0 38 = τ.1 0 4) := by
  refine loop_in (b := fX5_image_L28) (fun i v => v.2 = nI i ∧ (∀ j, j ≠ 11 → j ≠ 12 → v.1.1 j = τ.1 j) ∧ ∀ d, d < i → v.1.1 11 d = τ.1 6 d ∧ v.1.1 12 d = τ.1 7 d) _ 8 ?_ ?_ 1000 0 (τ, 0) (Nat.zero_le _) (by omega) ⟨rfl, fun _ _ _ => rfl, fun d hd => by omega⟩
  · rintro i ⟨τi, y⟩ hi ⟨hy, hr, hd⟩
    dsimp only at hy hr hd
    subst hy
    have g8 : inB (nI i) 8 = true := inB_nI (by omega) (by omega)
    have e7 : (putI τi 11 i (τ.1 6 i)).1 7 = τ.1 7 := by rw [putI_row _ _ _ _ (by decide)]; exact hr 7 (by decide) (by decide)
    refine ⟨(putI (putI τi 11 i (τ.1 6 i)) 12 i (τ.1 7 i), nI (i + 1)), fun ih => ?_, rfl, fun j a b => ?_, fun d hd2 => ?_⟩
    · unfold fX5_image_L28
      dsimp only
      rw [if_neg (show ¬ (8 : Int32) ≤ nI i from nI_ge (b := 8) (by omega) (by omega)), gd_of g8, gd_of g8, stp_e, rd_nI (by omega), hr 6 (by decide) (by decide), wr_nI (by omega), gd_of g8, gd_of g8, stp_e, rd_nI (by omega), wr_nI (by omega), e7, nI_1]
    · rw [putI_row _ _ _ _ b, putI_row _ _ _ _ a]; exact hr j a b
    · by_cases e : d = i
      · subst e; simp [putI_at]
      · have := hd d (by omega)
        simp [putI_at, e, this]
  · rintro ⟨τi, y⟩ ⟨hy, hr, hd⟩
    dsimp only at hy hr hd
    subst hy
    have h0 := hr 0 (by decide) (by decide)
    refine ⟨(τ.1 0 13, putI (putI (putI (putI τi 0 35 (τ.1 0 13)) 0 36 (τ.1 0 7)) 0 37 (τ.1 0 8)) 0 38 (τ.1 0 4)), fun ih => ?_, rfl, fun j a b c => ?_, fun d hd2 => ?_, fun k a b c d => ?_, ?_, ?_, ?_, ?_⟩
    · unfold fX5_image_L28 fX5_image_b64
      dsimp only
      rw [if_pos (show (8 : Int32) ≤ nI 8 by decide)]
      simp only [stp_e]
      simp [putI_at, h0]
    · rw [putI_row _ _ _ _ a, putI_row _ _ _ _ a, putI_row _ _ _ _ a, putI_row _ _ _ _ a]; exact hr j b c
    · simp only [putI_row _ _ _ _ (show (11 : Nat) ≠ 0 by decide), putI_row _ _ _ _ (show (12 : Nat) ≠ 0 by decide)]
      exact hd d hd2
    · rw [putI_fld _ _ _ _ d, putI_fld _ _ _ _ c, putI_fld _ _ _ _ b, putI_fld _ _ _ _ a, h0]
    · simp [putI_at]
    · simp [putI_at]
    · simp [putI_at]
    · simp [putI_at]
theorem mimage_ok (τ : Mem) : ∃ r, fX5_image τ = some r ∧ (r.1 = τ.1 0 13 ∧ (∀ j, j ≠ 0 → j ≠ 10 → j ≠ 11 → j ≠ 12 → r.2.1 j = τ.1 j) ∧ (∀ c, c < 36 → r.2.1 10 c = τ.1 4 c) ∧ (∀ d, d < 8 → r.2.1 11 d = τ.1 6 d ∧ r.2.1 12 d = τ.1 7 d) ∧ (∀ k, k ≠ 35 → k ≠ 36 → k ≠ 37 → k ≠ 38 → r.2.1 0 k = τ.1 0 k) ∧ r.2.1 0 35 = τ.1 0 13 ∧ r.2.1 0 36 = τ.1 0 7 ∧ r.2.1 0 37 = τ.1 0 8 ∧ r.2.1 0 38 = τ.1 0 4) := by
  unfold fX5_image
  refine loop_in (b := fX5_image_L2) (fun i v => v.2 = nI i ∧ (∀ j, j ≠ 10 → v.1.1 j = τ.1 j) ∧ ∀ c, c < i → v.1.1 10 c = τ.1 4 c) _ 36 ?_ ?_ 1000 0 (τ, 0) (Nat.zero_le _) (by omega) ⟨rfl, fun _ _ => rfl, fun d hd => by omega⟩
  · rintro i ⟨τi, y⟩ hi ⟨hy, hr, hd⟩
    dsimp only at hy hr hd
    subst hy
    have g : inB (nI i) 36 = true := inB_nI (by omega) (by omega)
    refine ⟨(putI τi 10 i (τ.1 4 i), nI (i + 1)), fun ih => ?_, rfl, fun j a => ?_, fun d hd2 => ?_⟩
    · unfold fX5_image_L2
      dsimp only
      rw [if_neg (show ¬ (36 : Int32) ≤ nI i from nI_ge (b := 36) (by omega) (by omega)), gd_of g, gd_of g, stp_e, rd_nI (by omega), hr 4 (by decide), wr_nI (by omega), nI_1]
    · rw [putI_row _ _ _ _ a]; exact hr j a
    · rw [putI_at]
      by_cases e : d = i
      · subst e; rw [if_pos ⟨rfl, rfl⟩]
      · rw [if_neg (fun z => e z.2)]; exact hd d (by omega)
  · rintro ⟨τi, y⟩ ⟨hy, hr, hd⟩
    dsimp only at hy hr hd
    subst hy
    obtain ⟨r, e, r1, r2, r3, r4, r5, r6, r7, r8⟩ := image_L28_ok τi
    have h0 := hr 0 (by decide)
    rw [h0] at r1 r5 r6 r7 r8
    refine ⟨r, fun ih => ?_, r1, fun j a b c d => ?_, fun c hc => ?_, fun d hd2 => ?_, fun k a b c d => ?_, r5, r6, r7, r8⟩
    · unfold fX5_image_L2
      dsimp only
      rw [if_pos (show (36 : Int32) ≤ nI 36 by decide)]
      exact e
    · rw [r2 j a c d]; exact hr j b
    · rw [r2 10 (by decide) (by decide) (by decide)]; exact hd c hc
    · rw [← hr 6 (by decide), ← hr 7 (by decide)]; exact r3 d hd2
    · rw [r4 k a b c d, h0]
theorem st_image : St_image Rel := by
  rintro σ τ ⟨S, h⟩
  dsimp only
  obtain ⟨T, VV, hc, hm, hw, hρ, h1, h2, h3, h4⟩ := h
  have hn := hc.n
  obtain ⟨F, e1, e2, e3⟩ := become_ok fl46 fl40 (by decide) hc
  obtain ⟨r, f0, f1, f2, f3, f4, f5, f6, f7, f8, f9⟩ := mimage_ok τ
  have hF40 : CR F 40 S := hc.fr fl40 fl46 (by decide) e3
  have row : ∀ j, scr j = false → ¬ (46 ≤ j ∧ j < 51) → F.1 j = σ.1 j := fun j a b => e3.1 j a (fun k hk => by omega)
  have F0 : ∀ j, j ≠ 0 → (putI F 0 8 1).1 j = F.1 j := fun j hj => putI_row _ _ _ _ hj
  have tx : ∀ t, t < 6 → (putI F 0 8 1).1 (9 + 4 * t) = F.1 (9 + 4 * t) ∧ (putI F 0 8 1).1 (10 + 4 * t) = F.1 (10 + 4 * t) := fun t ht => ⟨F0 _ (by omega), F0 _ (by omega)⟩
  have tx2 : ∀ t, t < 6 → (putI F 0 8 1).1 (9 + 4 * t) = σ.1 (9 + 4 * t) ∧ (putI F 0 8 1).1 (10 + 4 * t) = σ.1 (10 + 4 * t) := fun t ht => by
    obtain ⟨s1, s2, s3, s4⟩ := scr_tx t ht
    exact ⟨(tx t ht).1.trans (row _ s2 (by omega)), (tx t ht).2.trans (row _ s3 (by omega))⟩
  have hsc : ∀ k, k < 4 → scr (32 + 2 * k) = false ∧ scr (33 + 2 * k) = false := by decide
  refine ⟨nI (sN S), putI F 0 8 1, r.2, ?_, ?_, S, T, VV, hF40.same (F0 _ (by decide)) (F0 _ (by decide)) (F0 _ (by decide)) (F0 _ (by decide)) rfl tx, ?_, hw, hρ, h1.go ?_ tx2 (f5 3 (by decide) (by decide) (by decide) (by decide)) (f2 1 (by decide) (by decide) (by decide) (by decide)) (f2 2 (by decide) (by decide) (by decide) (by decide)), h2.go ?_ ?_ (f5 6 (by decide) (by decide) (by decide) (by decide)) (f2 3 (by decide) (by decide) (by decide) (by decide)), fun k hk => ?_, ?_⟩
  · unfold fX4_image
    rw [e1, bn1_s, stp_e, F0 40 (by decide), hF40.2.1]
  · rw [f0, ← hm.2.1, ← f1]
  · refine ⟨hm.1, by rw [f5 13 (by decide) (by decide) (by decide) (by decide)]; exact hm.2.1, by rw [f5 7 (by decide) (by decide) (by decide) (by decide)]; exact hm.2.2.1, by rw [f5 8 (by decide) (by decide) (by decide) (by decide)]; exact hm.2.2.2.1, fun d hd => ?_, fun c hc => ?_, ?_⟩
    · rw [f2 5 (by decide) (by decide) (by decide) (by decide), f2 6 (by decide) (by decide) (by decide) (by decide), f2 7 (by decide) (by decide) (by decide) (by decide)]
      exact hm.2.2.2.2.1 d hd
    · rw [f2 4 (by decide) (by decide) (by decide) (by decide)]; exact hm.2.2.2.2.2.1 c hc
    · obtain ⟨ρ, a, b, c⟩ := hm.2.2.2.2.2.2
      exact ⟨ρ, a, by rw [f5 4 (by decide) (by decide) (by decide) (by decide)]; exact b, c.mono (fun i hi => by rw [f2 1 (by decide) (by decide) (by decide) (by decide)]) (by rw [f2 2 (by decide) (by decide) (by decide) (by decide)])⟩
  · rw [putI_fld _ _ _ _ (by decide), row 0 rfl (by omega)]
  · rw [F0 3 (by decide), row 3 rfl (by omega)]
  · rw [F0 4 (by decide), row 4 rfl (by omega)]
  · obtain ⟨s1, s2⟩ := hsc k hk
    exact (h3 k hk).go (by rw [F0 _ (by omega), row _ s1 (by omega)]) (by rw [F0 _ (by omega), row _ s2 (by omega)]) (by rw [f2 13 (by decide) (by decide) (by decide) (by decide)]) (by rw [f2 14 (by decide) (by decide) (by decide) (by decide)]) (by rw [f2 15 (by decide) (by decide) (by decide) (by decide)]) (fun i _ => by rw [f2 16 (by decide) (by decide) (by decide) (by decide)])
  · refine Or.inr ⟨putI_self .., S, e2.same (F0 _ (by decide)) (F0 _ (by decide)) (F0 _ (by decide)) (F0 _ (by decide)) rfl tx, ⟨by rw [f6]; exact hm.2.1, by rw [f7]; exact hm.2.2.1, by rw [f8]; exact hm.2.2.2.1, fun d hd => ?_, fun c hc => ?_, by rw [f9]; exact m_rule hm⟩, Nat.le_refl _, fun _ _ => rfl, hw, hρ⟩
    · obtain ⟨a, b⟩ := f4 d (by omega)
      rw [a, b]
      exact (hm.2.2.2.2.1 d hd).2
    · rw [f3 c hc]; exact hm.2.2.2.2.2.1 c hc
theorem back_L39_ok (τ : Mem) : ∃ r, loopN fX5_back_L39 1000 (τ, 0) = some r ∧ (r.1 = τ.1 0 35 ∧ (∀ j, j ≠ 0 → j ≠ 6 → j ≠ 7 → r.2.1 j = τ.1 j) ∧ (∀ d, d < 8 → r.2.1 6 d = τ.1 11 d ∧ r.2.1 7 d = τ.1 12 d) ∧ (∀ k, k ≠ 13 → k ≠ 7 → k ≠ 8 → k ≠ 4 → r.2.1 0 k = τ.1 0 k) ∧ r.2.1 0 13 = τ.1 0 35 ∧ r.2.1 0 7 = τ.1 0 36 ∧ r.2.1 0 8 = τ.1 0 37 ∧ r.2.1 0 4 = τ.1 0 38) := by
  refine loop_in (b := fX5_back_L39) (fun i v => v.2 = nI i ∧ (∀ j, j ≠ 6 → j ≠ 7 → v.1.1 j = τ.1 j) ∧ ∀ d, d < i → v.1.1 6 d = τ.1 11 d ∧ v.1.1 7 d = τ.1 12 d) _ 8 ?_ ?_ 1000 0 (τ, 0) (Nat.zero_le _) (by omega) ⟨rfl, fun _ _ _ => rfl, fun d hd => by omega⟩
  · rintro i ⟨τi, y⟩ hi ⟨hy, hr, hd⟩
    dsimp only at hy hr hd
    subst hy
    have g8 : inB (nI i) 8 = true := inB_nI (by omega) (by omega)
    have e7 : (putI τi 6 i (τ.1 11 i)).1 12 = τ.1 12 := by rw [putI_row _ _ _ _ (by decide)]; exact hr 12 (by decide) (by decide)
    refine ⟨(putI (putI τi 6 i (τ.1 11 i)) 7 i (τ.1 12 i), nI (i + 1)), fun ih => ?_, rfl, fun j a b => ?_, fun d hd2 => ?_⟩
    · unfold fX5_back_L39
      dsimp only
      rw [if_neg (show ¬ (8 : Int32) ≤ nI i from nI_ge (b := 8) (by omega) (by omega)), gd_of g8, gd_of g8, stp_e, rd_nI (by omega), hr 11 (by decide) (by decide), wr_nI (by omega), gd_of g8, gd_of g8, stp_e, rd_nI (by omega), wr_nI (by omega), e7, nI_1]
    · rw [putI_row _ _ _ _ b, putI_row _ _ _ _ a]; exact hr j a b
    · by_cases e : d = i
      · subst e; simp [putI_at]
      · have := hd d (by omega)
        simp [putI_at, e, this]
  · rintro ⟨τi, y⟩ ⟨hy, hr, hd⟩
    dsimp only at hy hr hd
    subst hy
    have h0 := hr 0 (by decide) (by decide)
    refine ⟨(τ.1 0 35, putI (putI (putI (putI τi 0 13 (τ.1 0 35)) 0 7 (τ.1 0 36)) 0 8 (τ.1 0 37)) 0 4 (τ.1 0 38)), fun ih => ?_, rfl, fun j a b c => ?_, fun d hd2 => ?_, fun k a b c d => ?_, ?_, ?_, ?_, ?_⟩
    · unfold fX5_back_L39 fX5_back_b75
      dsimp only
      rw [if_pos (show (8 : Int32) ≤ nI 8 by decide)]
      simp only [stp_e]
      simp [putI_at, h0]
    · rw [putI_row _ _ _ _ a, putI_row _ _ _ _ a, putI_row _ _ _ _ a, putI_row _ _ _ _ a]; exact hr j b c
    · simp only [putI_row _ _ _ _ (show (6 : Nat) ≠ 0 by decide), putI_row _ _ _ _ (show (7 : Nat) ≠ 0 by decide)]
      exact hd d hd2
    · rw [putI_fld _ _ _ _ d, putI_fld _ _ _ _ c, putI_fld _ _ _ _ b, putI_fld _ _ _ _ a, h0]
    · simp [putI_at]
    · simp [putI_at]
    · simp [putI_at]
    · simp [putI_at]
theorem mback_ok {τ : Mem} (hne : ¬ τ.1 0 35 = -1) : ∃ r, fX5_back τ = some r ∧ (r.1 = τ.1 0 35 ∧ (∀ j, j ≠ 0 → j ≠ 4 → j ≠ 6 → j ≠ 7 → r.2.1 j = τ.1 j) ∧ (∀ c, c < 36 → r.2.1 4 c = τ.1 10 c) ∧ (∀ d, d < 8 → r.2.1 6 d = τ.1 11 d ∧ r.2.1 7 d = τ.1 12 d) ∧ (∀ k, k ≠ 13 → k ≠ 7 → k ≠ 8 → k ≠ 4 → r.2.1 0 k = τ.1 0 k) ∧ r.2.1 0 13 = τ.1 0 35 ∧ r.2.1 0 7 = τ.1 0 36 ∧ r.2.1 0 8 = τ.1 0 37 ∧ r.2.1 0 4 = τ.1 0 38) := by
  unfold fX5_back
  rw [if_neg hne]
  refine loop_in (b := fX5_back_L13) (fun i v => v.2 = nI i ∧ (∀ j, j ≠ 4 → v.1.1 j = τ.1 j) ∧ ∀ c, c < i → v.1.1 4 c = τ.1 10 c) _ 36 ?_ ?_ 1000 0 (τ, 0) (Nat.zero_le _) (by omega) ⟨rfl, fun _ _ => rfl, fun d hd => by omega⟩
  · rintro i ⟨τi, y⟩ hi ⟨hy, hr, hd⟩
    dsimp only at hy hr hd
    subst hy
    have g : inB (nI i) 36 = true := inB_nI (by omega) (by omega)
    refine ⟨(putI τi 4 i (τ.1 10 i), nI (i + 1)), fun ih => ?_, rfl, fun j a => ?_, fun d hd2 => ?_⟩
    · unfold fX5_back_L13
      dsimp only
      rw [if_neg (show ¬ (36 : Int32) ≤ nI i from nI_ge (b := 36) (by omega) (by omega)), gd_of g, gd_of g, stp_e, rd_nI (by omega), hr 10 (by decide), wr_nI (by omega), nI_1]
    · rw [putI_row _ _ _ _ a]; exact hr j a
    · rw [putI_at]
      by_cases e : d = i
      · subst e; rw [if_pos ⟨rfl, rfl⟩]
      · rw [if_neg (fun z => e z.2)]; exact hd d (by omega)
  · rintro ⟨τi, y⟩ ⟨hy, hr, hd⟩
    dsimp only at hy hr hd
    subst hy
    obtain ⟨r, e, r1, r2, r3, r4, r5, r6, r7, r8⟩ := back_L39_ok τi
    have h0 := hr 0 (by decide)
    rw [h0] at r1 r5 r6 r7 r8
    refine ⟨r, fun ih => ?_, r1, fun j a b c d => ?_, fun c hc => ?_, fun d hd2 => ?_, fun k a b c d => ?_, r5, r6, r7, r8⟩
    · unfold fX5_back_L13
      dsimp only
      rw [if_pos (show (36 : Int32) ≤ nI 36 by decide)]
      exact e
    · rw [r2 j a c d]; exact hr j b
    · rw [r2 4 (by decide) (by decide) (by decide)]; exact hd c hc
    · rw [← hr 11 (by decide), ← hr 12 (by decide)]; exact r3 d hd2
    · rw [r4 k a b c d, h0]
theorem st_back : St_back Rel := by
  rintro σ τ ⟨S, h⟩
  have rel0 := h.rel
  dsimp only
  obtain ⟨T, VV, hc, hm, hw, hρ, h1, h2, h3, h4⟩ := h
  have hn := hc.n
  rcases h4 with ⟨a, b⟩ | ⟨a, K, k1, k2, k3, k4, k5, ρ, k6, k7⟩
  · refine ⟨-3, σ, τ, ?_, ?_, rel0⟩
    · unfold fX4_back; rw [a, if_pos rfl]
    · unfold fX5_back; rw [b, if_pos rfl]
  · obtain ⟨F, e1, e2, e3⟩ := become_ok fl40 fl46 (by decide) k1
    obtain ⟨i1, i2, i3, i4, i5, i6⟩ := id k2
    obtain ⟨r, f0, f1, f2, f3, f4, f5, f6, f7, f8, f9⟩ := mback_ok (τ := τ) (fun z => by rw [i1] at z; have := congrArg Int32.toInt z; rw [nI_toInt (by omega)] at this; simp at this)
    have pc : PC σ F := e3.pc (Or.inl rfl)
    have pm : PM τ r.2 := ⟨fun j a b c d e f g => f2 j a b d e, fun k a b c d e f => f5 k e c d b⟩
    have hb : RS F r.2 S T VV := RS.go (S := S) (S' := S) ⟨h1, h2, h3, Or.inr ⟨a, K, k1, k2, k3, k4, k5, ρ, k6, k7⟩⟩ pc pm (Nat.le_refl _) (fun _ _ => rfl)
    obtain ⟨b1, b2, b3, _⟩ := hb
    refine ⟨nI (sN K), F, r.2, ?_, by rw [f0, ← i1, ← f1], K, T, VV, e2, ?_, k5, ⟨ρ, k6, k7⟩, b1, b2, b3, Or.inr ⟨?_, K, k1.fr fl46 fl40 (by decide) e3, ki_pm k2 pm, Nat.le_refl _, fun _ _ => rfl, k5, ρ, k6, k7⟩⟩
    · unfold fX4_back
      rw [a, if_neg (by decide), e1, bn1_s, e2.2.1]
    · refine ⟨k1.1, by rw [f6]; exact i1, by rw [f7]; exact i2, by rw [f8]; exact i3, fun d hd => ?_, fun c hc => by rw [f3 c hc]; exact i5 c hc, ρ, by have := h1.2.1; omega, ?_, ?_⟩
      · obtain ⟨x, y⟩ := f4 d (by omega)
        rw [x, y, f2 5 (by decide) (by decide) (by decide) (by decide), k4 d hd]
        exact ⟨(hm.2.2.2.2.1 d (by omega)).1, i4 d hd⟩
      · rw [f9, i6, k7]; exact (h1.2.2.2.2 ρ k6).2.1
      · rw [k7]; exact (b1.2.2.2.2 ρ k6).2
    · rw [pc.row (j := 0) rfl (by omega)]; exact a
