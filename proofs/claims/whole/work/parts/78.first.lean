/-! ===== both as they begin ===== -/
def L0 (i : Nat) : Nat := [103, 111, 101, 115, 32, 102, 111, 114, 99, 101, 32, 59, 32, 102, 114, 101, 101, 115, 32, 48, 32, 59, 32, 100, 114, 97, 119, 115, 32, 48, 32, 59].getD i 0
theorem l0_row : ∀ i, i < 32 → memM0.1 1 (160 * 0 + i) = nI (L0 i) ∧ L0 i < 256 := by decide +kernel
theorem t0_end : tk L0 32 9 = -1 := by decide +kernel
theorem t0_rds : rds (tk L0 32) 9 1 = (true, 3, [10000]) ∧ rds (tk L0 32) 9 2 = (true, 6, [0, 10000]) ∧ rds (tk L0 32) 9 3 = (true, 9, [0, 0, 10000]) := by decide +kernel
theorem t0_ok : rok (tk L0 32) 9 = true := by decide +kernel
theorem m0_rows : mem0.1 9 0 = 10000 ∧ mem0.1 9 1 = 0 ∧ mem0.1 9 2 = 0 ∧ mem0.1 10 0 = 1 ∧ mem0.1 10 1 = 2 ∧ mem0.1 10 2 = 3 := by decide +kernel
theorem m0_flds : mem0.1 0 7 = nI 1 ∧ mem0.1 0 8 = 0 ∧ mem0.1 3 0 = nI 0 ∧ mem0.1 40 7 = nI 0 ∧ mem0.1 40 4 = nI 0 ∧ mem0.1 40 5 = nI 3 ∧ mem0.1 40 6 = nI 0 ∧ ∀ k, k < 4 → mem0.1 (32 + 2 * k) 1 = -1 := by decide +kernel
theorem mm0_flds : memM0.1 0 3 = nI 1 ∧ memM0.1 0 35 = -1 ∧ memM0.1 0 6 = nI 0 ∧ memM0.1 0 13 = nI 0 ∧ memM0.1 0 7 = nI 0 ∧ memM0.1 0 8 = nI 3 ∧ memM0.1 0 4 = nI 0 ∧ (∀ k, k < 4 → memM0.1 13 k = 0) ∧ (∀ c, c < 36 → memM0.1 4 c = 0) ∧ memM0.1 2 0 = nI 32 := by decide +kernel
def S0 : FS := (0, fun _ => 0, fun _ => 0, fun _ => none, fun _ => false, 0, 3, RV L0 32 9 0)
theorem rel0 : Rel mem0 memM0 := by
  obtain ⟨c1, c2, c3, c4, c5, c6, c7, c8⟩ := m0_flds
  obtain ⟨d1, d2, d3, d4, d5, d6, d7, d8, d9, d10⟩ := mm0_flds
  obtain ⟨r1, r2, r3, r4, r5, r6⟩ := m0_rows
  obtain ⟨k1, k2, k3⟩ := t0_rds
  have cert : CERT L0 32 9 := cert_of (τ := memM0) (ρ := 0) (by decide) (by decide) d10 l0_row (by decide) (Or.inl t0_end) t0_ok
  have ts : TS mem0 0 (RV L0 32 9 0) := ts_of (t := 0) (by rw [k3]; exact ⟨r3, r2, r1, trivial⟩) (by rw [k3]; decide) (fun q hq => by
    rcases (show q = 0 ∨ q = 1 ∨ q = 2 by omega) with rfl | rfl | rfl
    · rw [k1]; exact r4
    · rw [k2]; exact r5
    · rw [k3]; exact r6) cert (by decide)
  have mts : MTS memM0 0 (RV L0 32 9 0) := mts_of (by decide) (by decide) d10 l0_row (by decide) (Or.inl t0_end) t0_ok
  have ok : okS S0 := ⟨Nat.zero_le _, fun d hd => absurd hd (Nat.not_lt_zero d), Nat.zero_le _, (by decide : (3 : Nat) < 10)⟩
  refine ⟨S0, 1, fun _ => RV L0 32 9 0, ⟨ok, c4, c5, c6, fun d hd => absurd hd (Nat.not_lt_zero d), fun c _ => ?_, 0, by decide, c7, ts⟩, ⟨ok, d4, d5, d6, fun d hd => absurd hd (Nat.not_lt_zero d), fun c hc => d9 c hc, 0, by decide, d7, mts⟩, (by decide : (0 : Nat) ≤ 999), ⟨0, by decide, rfl⟩, ⟨Nat.le_refl _, by decide, c1, d1, fun t ht => ?_⟩, ⟨0, by decide, c3, d3, fun i hi => absurd hi (Nat.not_lt_zero i)⟩, fun k hk => Or.inl ⟨c8 k hk, d8 k hk⟩, Or.inl ⟨c2, d2⟩⟩
  · show (0 : Int64).toBitVec.getLsbD c = (decide (c < 36) && false)
    rw [Bool.and_false]
    exact BitVec.getLsbD_zero
  · have e : t = 0 := by omega
    subst e
    exact ⟨ts, mts⟩
theorem rel_steps : Steps Rel := ⟨st_set, st_dust, st_told, st_feed, st_text, st_force, st_stroke, st_week, st_sweep, st_sweeps, st_floor, st_where, st_gather, st_best, st_save, st_lasts, st_share, st_tells, st_places, st_film, st_drawn, st_chance, st_image, st_back, st_count, st_sheet, st_cell, st_copy, st_heap, st_taken⟩
