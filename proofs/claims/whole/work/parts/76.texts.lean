/-! ===== a text that was read, on both sides ===== -/
def cdc (T : Nat → Int32) (K p : Nat) : List Int32 := ((rds T K (p + 1)).2.2.take ((rds T K (p + 1)).2.2.length - (rds T K p).2.2.length)).reverse
theorem cdc_of {T : Nat → Int32} {K p : Nat} {c : List Int32} (h : (rds T K (p + 1)).2.2 = c.reverse ++ (rds T K p).2.2) : cdc T K p = c := by
  unfold cdc
  rw [h, List.length_append, Nat.add_sub_cancel, List.take_left, List.reverse_reverse]
def RV (L : Nat → Nat) (n K t : Nat) : Nat → (Nat → Int32) → Int32 := fun p F => if p = 3 then nI t else (evc F (cdc (tk L n) K p) []).headD 0
theorem nt_of {F : Nat → Int32} {c : List Int32} {v : Int32} (h : ∀ stk, evc F c stk = v :: stk) : nt c = 1 := by
  have h1 := evc_big F c (List.replicate (c.length + 1) 0) (by simp)
  rw [h] at h1
  simp only [List.length_cons, List.length_replicate] at h1
  omega
/-- the codes stand one behind the other, and each part's leave one value -/
def CERT (L : Nat → Nat) (n K : Nat) : Prop := ∀ p, p < 3 → (rds (tk L n) K (p + 1)).2.2 = (cdc (tk L n) K p).reverse ++ (rds (tk L n) K p).2.2 ∧ vdp 0 (cdc (tk L n) K p) ∧ nt (cdc (tk L n) K p) = 1
section TEXTS
variable {L : Nat → Nat} {n K : Nat}
theorem ts_of {σ : Mem} {t : Nat} (hrow : SKR (σ.1 (9 + 4 * t)) (rds (tk L n) K 3).2.2) (hlen : (rds (tk L n) K 3).2.2.length ≤ 160) (hend : ∀ q, q < 3 → σ.1 (10 + 4 * t) q = nI (rds (tk L n) K (q + 1)).2.2.length) (hc : CERT L n K) (ht : t < 6) : TS σ t (RV L n K t) := by
  refine ⟨rfl, fun σ' e1 e2 part hp fa hfa => ?_⟩
  have hgc : ∀ x, x ∈ cdc (tk L n) K part → gc x := fun x hx => rds_gc (tk_tok L n) K (part + 1) x (by
    rw [(hc part hp).1]
    exact List.mem_append_left _ (List.mem_reverse.mpr hx))
  have c2 := (hc 2 (by decide)).1
  have c1 := (hc 1 (by decide)).1
  have hsk : SKR (σ.1 (9 + 4 * t)) (rds (tk L n) K (part + 1)).2.2 ∧ (rds (tk L n) K (part + 1)).2.2.length ≤ 160 := by
    have s2 : SKR (σ.1 (9 + 4 * t)) (rds (tk L n) K 2).2.2 := by
      have := hrow
      rw [c2] at this
      exact SKR.suf _ _ this
    have l2 : (rds (tk L n) K 2).2.2.length ≤ 160 := by
      have := hlen
      rw [c2, List.length_append] at this
      omega
    have s1 : SKR (σ.1 (9 + 4 * t)) (rds (tk L n) K 1).2.2 := by
      have := s2
      rw [c1] at this
      exact SKR.suf _ _ this
    have l1 : (rds (tk L n) K 1).2.2.length ≤ 160 := by
      have := l2
      rw [c1, List.length_append] at this
      omega
    rcases (show part = 0 ∨ part = 1 ∨ part = 2 by omega) with rfl | rfl | rfl
    · exact ⟨s1, l1⟩
    · exact ⟨s2, l2⟩
    · exact ⟨hrow, hlen⟩
  obtain ⟨d1, d2, d3⟩ := hc part hp
  have hr : RWF (σ'.1 (8 + 4 * t + 1)) (rds (tk L n) K part).2.2.length (cdc (tk L n) K part) := by
    rw [show 8 + 4 * t + 1 = 9 + 4 * t by omega, e1]
    have := hsk.1
    rw [d1] at this
    exact SKR.rwf _ _ this
  have hl : (rds (tk L n) K part).2.2.length + (cdc (tk L n) K part).length ≤ 160 := by
    have := hsk.2
    rw [d1, List.length_append, List.length_reverse] at this
    omega
  have hen : σ'.1 (8 + 4 * t + 2) part = nI ((rds (tk L n) K part).2.2.length + (cdc (tk L n) K part).length) := by
    rw [show 8 + 4 * t + 2 = 10 + 4 * t by omega, e2, hend part hp, d1, List.length_append, List.length_reverse, Nat.add_comm]
  have hfa' : fa ≠ 8 + 4 * t + 3 := by
    obtain ⟨k, hk, rfl⟩ := hfa
    rcases hk with rfl | rfl | rfl | rfl <;> omega
  obtain ⟨g, g1, g2⟩ := value_L (b := 8 + 4 * t) (σ := σ') hp hfa' (cdc (tk L n) K part) (rds (tk L n) K part).2.2.length [] (σ'.1 (8 + 4 * t + 3)) 1000 (by omega) trivial d2 hgc hr hl hen (Nat.zero_le _)
  rw [putR_self] at g1
  have hlen1 := evc_nt (cut6 (σ'.1 fa)) (cdc (tk L n) K part) [] d2
  rw [d3] at hlen1
  have hv : ∃ v, evc (cut6 (σ'.1 fa)) (cdc (tk L n) K part) [] = [v] := by
    cases h : evc (cut6 (σ'.1 fa)) (cdc (tk L n) K part) [] with
    | nil => rw [h] at hlen1; simp at hlen1
    | cons v r =>
      cases r with
      | nil => exact ⟨v, rfl⟩
      | cons a s =>
        rw [h] at hlen1
        simp only [List.length_cons, List.length_nil] at hlen1
        omega
  obtain ⟨v, hv⟩ := hv
  rw [hv] at g2
  have gv : g 0 = v := g2.1
  have eV : RV L n K t part (cut6 (σ'.1 fa)) = v := by
    unfold RV
    rw [if_neg (by omega), hv]
    rfl
  refine ⟨g, ?_⟩
  rw [eV, ← gv, show 11 + 4 * t = 8 + 4 * t + 3 by omega, ← g1]
  unfold fX3_value
  rcases (show part = 0 ∨ ∃ m, part = m + 1 by
    cases part with
    | zero => exact Or.inl rfl
    | succ m => exact Or.inr ⟨m, rfl⟩) with rfl | ⟨m, rfl⟩
  · rw [if_pos (show nI 0 = 0 from rfl)]
    rfl
  · rw [if_neg (fun z => by
      have := nI_inj (a := m + 1) (b := 0) (by omega) (by decide) z
      omega), nI_pred, gd_of (inB_nI (by omega) (by decide)), rd_nI (by omega), show 8 + 4 * t + 2 = 10 + 4 * t by omega, e2, hend m (by omega)]
    rfl
theorem mts_of {τ : Mem} {ρ : Nat} (hρ : ρ < 6) (hn : n ≤ 160) (h2 : τ.1 2 ρ = nI n) (hl : ∀ i, i < n → τ.1 1 (160 * ρ + i) = nI (L i) ∧ L i < 256) (hKn : K ≤ n) (hT : tk L n K = -1 ∨ tk L n K = -2) (hok : rok (tk L n) K = true) : MTS τ ρ (RV L n K ρ) := by
  refine ⟨rfl, fun τ' e1 e2 part hp => ?_⟩
  obtain ⟨v, F, f1, f2, f3⟩ := mread_ok (τ := τ') hρ hn (e2.trans h2) (fun i hi => ⟨(e1 i (by omega)).trans (hl i hi).1, (hl i hi).2⟩) hKn hT hp
  refine ⟨F, ?_, f2⟩
  rcases f3 with ⟨z, _⟩ | ⟨_, _, c, w, h, hv⟩
  · rw [hok] at z; exact absurd z (by decide)
  · obtain ⟨a1, a2⟩ := h part hp
    rw [f1, hv]
    unfold RV
    rw [if_neg (by omega), cdc_of a1, a2]
    rfl
theorem cert_of {τ : Mem} {ρ : Nat} (hρ : ρ < 6) (hn : n ≤ 160) (h2 : τ.1 2 ρ = nI n) (hl : ∀ i, i < n → τ.1 1 (160 * ρ + i) = nI (L i) ∧ L i < 256) (hKn : K ≤ n) (hT : tk L n K = -1 ∨ tk L n K = -2) (hok : rok (tk L n) K = true) : CERT L n K := by
  obtain ⟨v, F, f1, f2, f3⟩ := mread_ok (τ := τ) hρ hn h2 hl hKn hT (q := 0) (by decide)
  rcases f3 with ⟨z, _⟩ | ⟨_, _, c, w, h, hv⟩
  · rw [hok] at z; exact absurd z (by decide)
  · intro p hp
    obtain ⟨a1, a2⟩ := h p hp
    rw [cdc_of a1]
    exact ⟨a1, vdp_of a2, nt_of a2⟩
end TEXTS
