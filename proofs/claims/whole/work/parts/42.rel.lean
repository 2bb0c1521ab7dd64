/-! ===== the relation of the two ===== -/
abbrev VT : Type := Nat → Nat → (Nat → Int32) → Int32
def TXR (σ τ : Mem) (T : Nat) (VV : VT) : Prop := 1 ≤ T ∧ T ≤ 6 ∧ σ.1 0 7 = nI T ∧ τ.1 0 3 = nI T ∧ ∀ t, t < T → TS σ t (VV t) ∧ MTS τ t (VV t)
def TPR (σ τ : Mem) : Prop := ∃ n, n ≤ 160 ∧ σ.1 3 0 = nI n ∧ τ.1 0 6 = nI n ∧ ∀ i, i < n → σ.1 4 i = τ.1 3 i ∧ ∃ l, l < 256 ∧ τ.1 3 i = nI l
def SHR (σ τ : Mem) (k : Nat) : Prop := (σ.1 (32 + 2 * k) 1 = -1 ∧ τ.1 13 k = 0) ∨ (∃ s n, s < 3 ∧ n ≤ 40 ∧ σ.1 (32 + 2 * k) 1 = nI s ∧ τ.1 13 k = 1 ∧ τ.1 14 k = nI s ∧ σ.1 (32 + 2 * k) 2 = nI n ∧ τ.1 15 k = nI n ∧ ∀ i, i < n → σ.1 (33 + 2 * k) i = τ.1 16 (40 * k + i))
def KI (τ : Mem) (K : FS) : Prop := τ.1 0 35 = nI (sN K) ∧ τ.1 0 36 = nI (sW K) ∧ τ.1 0 37 = nI (sF K) ∧ (∀ d, d < sN K → τ.1 11 d = nI (sU K d) ∧ τ.1 12 d = enc (sA K d)) ∧ (∀ c, c < 36 → τ.1 10 c = if sC K c then 1 else 0) ∧ τ.1 0 38 = sV K 3 (fun _ => 0)
def IMR (σ τ : Mem) (S : FS) (T : Nat) (VV : VT) : Prop := (σ.1 0 8 = 0 ∧ τ.1 0 35 = -1) ∨ (σ.1 0 8 = 1 ∧ ∃ K, CR σ 46 K ∧ KI τ K ∧ sN K ≤ sN S ∧ (∀ d, d < sN K → sK K d = sK S d) ∧ sW K ≤ 999 ∧ ∃ ρ, ρ < T ∧ sV K = VV ρ)
def RS (σ τ : Mem) (S : FS) (T : Nat) (VV : VT) : Prop := TXR σ τ T VV ∧ TPR σ τ ∧ (∀ k, k < 4 → SHR σ τ k) ∧ IMR σ τ S T VV
def RelS (σ τ : Mem) (S : FS) : Prop := ∃ T VV, CR σ 40 S ∧ MR τ S ∧ sW S ≤ 999 ∧ (∃ ρ, ρ < T ∧ sV S = VV ρ) ∧ RS σ τ S T VV
def Rel (σ τ : Mem) : Prop := ∃ S, RelS σ τ S
theorem PC.row {σ σ' : Mem} (p : PC σ σ') {j : Nat} (hs : scr j = false) (hj : ¬ (40 ≤ j ∧ j < 45) ∧ ¬ (52 ≤ j ∧ j < 57) ∧ ¬ (58 ≤ j ∧ j < 63)) : σ'.1 j = σ.1 j := p.1 j hs (fun k hk => by omega)
theorem RS.go {σ τ σ' τ' : Mem} {S S' : FS} {T : Nat} {VV : VT} (h : RS σ τ S T VV) (p : PC σ σ') (q : PM τ τ') (hn : sN S ≤ sN S') (hk : ∀ d, d < sN S → sK S' d = sK S d) : RS σ' τ' S' T VV := by
  obtain ⟨⟨t1, t2, t3, t4, t5⟩, ⟨n, n1, n2, n3, n4⟩, sh, im⟩ := h
  have r1 := q.1 1 (by decide) (by decide) (by decide) (by decide) (by decide) (by decide) (by decide)
  have r2 := q.1 2 (by decide) (by decide) (by decide) (by decide) (by decide) (by decide) (by decide)
  have r3 := q.1 3 (by decide) (by decide) (by decide) (by decide) (by decide) (by decide) (by decide)
  have r10 := q.1 10 (by decide) (by decide) (by decide) (by decide) (by decide) (by decide) (by decide)
  have r11 := q.1 11 (by decide) (by decide) (by decide) (by decide) (by decide) (by decide) (by decide)
  have r12 := q.1 12 (by decide) (by decide) (by decide) (by decide) (by decide) (by decide) (by decide)
  have r13 := q.1 13 (by decide) (by decide) (by decide) (by decide) (by decide) (by decide) (by decide)
  have r14 := q.1 14 (by decide) (by decide) (by decide) (by decide) (by decide) (by decide) (by decide)
  have r15 := q.1 15 (by decide) (by decide) (by decide) (by decide) (by decide) (by decide) (by decide)
  have r16 := q.1 16 (by decide) (by decide) (by decide) (by decide) (by decide) (by decide) (by decide)
  have c0 := p.row (j := 0) rfl (by omega)
  have c3 := p.row (j := 3) rfl (by omega)
  have c4 := p.row (j := 4) rfl (by omega)
  have hsc : ∀ k, k < 4 → scr (32 + 2 * k) = false ∧ scr (33 + 2 * k) = false := by decide
  refine ⟨⟨t1, t2, by rw [c0]; exact t3, by rw [q.2 3 rfl (by decide) (by decide) (by decide) (by decide) (by decide)]; exact t4, fun t ht => ?_⟩, ⟨n, n1, by rw [c3]; exact n2, by rw [q.2 6 rfl (by decide) (by decide) (by decide) (by decide) (by decide)]; exact n3, fun i hi => by rw [c4, r3]; exact n4 i hi⟩, fun k hk4 => ?_, ?_⟩
  · obtain ⟨a, b⟩ := t5 t ht
    obtain ⟨s1, s2, s3, s4⟩ := scr_tx t (by omega)
    exact ⟨a.mono (p.row s2 (by omega)) (p.row s3 (by omega)), b.mono (fun i hi => by rw [r1]) (by rw [r2])⟩
  · obtain ⟨s1, s2⟩ := hsc k hk4
    rcases sh k hk4 with ⟨a, b⟩ | ⟨s, m, a1, a2, a3, a4, a5, a6, a7, a8⟩
    · exact Or.inl ⟨by rw [p.row s1 (by omega)]; exact a, by rw [r13]; exact b⟩
    · exact Or.inr ⟨s, m, a1, a2, by rw [p.row s1 (by omega)]; exact a3, by rw [r13]; exact a4, by rw [r14]; exact a5, by rw [p.row s1 (by omega)]; exact a6, by rw [r15]; exact a7, fun i hi => by rw [p.row s2 (by omega), r16]; exact a8 i hi⟩
  · rcases im with ⟨a, b⟩ | ⟨a, K, k1, ⟨i1, i2, i3, i4, i5, i6⟩, k3, k4, k5, k6⟩
    · exact Or.inl ⟨by rw [c0]; exact a, by rw [q.2 35 rfl (by decide) (by decide) (by decide) (by decide) (by decide)]; exact b⟩
    · refine Or.inr ⟨by rw [c0]; exact a, K, ?_, ⟨by rw [q.2 35 rfl (by decide) (by decide) (by decide) (by decide) (by decide)]; exact i1, by rw [q.2 36 rfl (by decide) (by decide) (by decide) (by decide) (by decide)]; exact i2, by rw [q.2 37 rfl (by decide) (by decide) (by decide) (by decide) (by decide)]; exact i3, fun d hd => by rw [r11, r12]; exact i4 d hd, fun c hc => by rw [r10]; exact i5 c hc, by rw [q.2 38 rfl (by decide) (by decide) (by decide) (by decide) (by decide)]; exact i6⟩, by omega, fun d hd => by rw [hk d (by omega)]; exact k4 d hd, k5, k6⟩
      refine k1.same (p.row rfl (by omega)) (p.row rfl (by omega)) (p.row rfl (by omega)) (p.row rfl (by omega)) (by rw [p.2 46 (by decide) (by decide) (by decide)]) (fun t ht => ?_)
      obtain ⟨s1, s2, s3, s4⟩ := scr_tx t ht
      exact ⟨p.row s2 (by omega), p.row s3 (by omega)⟩
theorem RelS.go {σ τ σ' τ' : Mem} {S S' : FS} (h : RelS σ τ S) (c : CR σ' 40 S') (m : MR τ' S') (p : PC σ σ') (q : PM τ τ') (hn : sN S ≤ sN S') (hk : ∀ d, d < sN S → sK S' d = sK S d) (hw : sW S' ≤ 999) (hv : sV S' = sV S) : Rel σ' τ' := by
  obtain ⟨T, VV, _, _, _, hρ, hr⟩ := h
  exact ⟨S', T, VV, c, m, hw, by rw [hv]; exact hρ, hr.go p q hn hk⟩
/-- nothing is other than it was -/
theorem RelS.st {σ τ σ' τ' : Mem} {S : FS} (h : RelS σ τ S) (c : CR σ' 40 S) (m : MR τ' S) (p : PC σ σ') (q : PM τ τ') : Rel σ' τ' := h.go c m p q (Nat.le_refl _) (fun _ _ => rfl) (by obtain ⟨T, VV, _, _, hw, _⟩ := h; exact hw) rfl
theorem RelS.c {σ τ : Mem} {S : FS} (h : RelS σ τ S) : CR σ 40 S := by obtain ⟨T, VV, hc, _⟩ := h; exact hc
theorem RelS.m {σ τ : Mem} {S : FS} (h : RelS σ τ S) : MR τ S := by obtain ⟨T, VV, _, hm, _⟩ := h; exact hm
theorem RelS.w {σ τ : Mem} {S : FS} (h : RelS σ τ S) : sW S ≤ 999 := by obtain ⟨T, VV, _, _, hw, _⟩ := h; exact hw
theorem RelS.sh {σ τ : Mem} {S : FS} (h : RelS σ τ S) {k : Nat} (hk : k < 4) : SHR σ τ k := by obtain ⟨T, VV, _, _, _, _, _, _, hs, _⟩ := h; exact hs k hk
theorem RelS.rel {σ τ : Mem} {S : FS} (h : RelS σ τ S) : Rel σ τ := ⟨S, h⟩
/-- a call that answers the same and leaves all as it was -/
theorem simI_id {fx fm : Mem → Option (Int32 × Mem)} (h : ∀ σ τ S, RelS σ τ S → ∃ r, fx σ = some (r, σ) ∧ fm τ = some (r, τ)) : SimI Rel fx fm := fun σ τ ⟨S, hS⟩ => by
  obtain ⟨r, h1, h2⟩ := h σ τ S hS
  exact ⟨r, σ, τ, h1, h2, hS.rel⟩
theorem simI_st {fx fm : Mem → Option (Int32 × Mem)} (h : ∀ σ τ S, RelS σ τ S → ∃ r σ' τ', fx σ = some (r, σ') ∧ fm τ = some (r, τ') ∧ CR σ' 40 S ∧ MR τ' S ∧ PC σ σ' ∧ PM τ τ') : SimI Rel fx fm := fun σ τ ⟨S, hS⟩ => by
  obtain ⟨r, σ', τ', h1, h2, h3, h4, h5, h6⟩ := h σ τ S hS
  exact ⟨r, σ', τ', h1, h2, hS.st h3 h4 h5 h6⟩
theorem simL_st {fx fm : Mem → Option (Int64 × Mem)} (h : ∀ σ τ S, RelS σ τ S → ∃ r σ' τ', fx σ = some (r, σ') ∧ fm τ = some (r, τ') ∧ CR σ' 40 S ∧ MR τ' S ∧ PC σ σ' ∧ PM τ τ') : SimL Rel fx fm := fun σ τ ⟨S, hS⟩ => by
  obtain ⟨r, σ', τ', h1, h2, h3, h4, h5, h6⟩ := h σ τ S hS
  exact ⟨r, σ', τ', h1, h2, hS.st h3 h4 h5 h6⟩
