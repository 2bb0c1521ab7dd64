/-! ===== the class's yard ===== -/
def SKR (f : Nat → Int32) : List Int32 → Prop
  | [] => True
  | t :: W => f W.length = t ∧ SKR f W
theorem SKR.cg {f g : Nat → Int32} : ∀ {W : List Int32}, SKR f W → (∀ j, j < W.length → g j = f j) → SKR g W
  | [], _, _ => trivial
  | _ :: W, h, e => ⟨(e _ (Nat.lt_succ_self _)).trans h.1, SKR.cg (W := W) h.2 (fun j hj => e j (Nat.lt_succ_of_lt hj))⟩
def VW (t : Int32) : Prop := t = -6 ∨ t = -7 ∨ t = -8 ∨ t = -10 ∨ t = -13 ∨ t = -14 ∨ t = -15 ∨ t = -16 ∨ t = -17 ∨ t = -18
theorem rank_ok (σ : Mem) {t : Int32} (h : VW t) : fX1_rank t σ = some (nI (rk t)) := by
  rcases h with rfl | rfl | rfl | rfl | rfl | rfl | rfl | rfl | rfl | rfl <;> rfl
theorem vw_lt {t : Int32} (h : VW t) : rk t ≤ 7 := by
  rcases h with rfl | rfl | rfl | rfl | rfl | rfl | rfl | rfl | rfl | rfl <;> decide
theorem rank_ne (σ : Mem) {t : Int32} (h : ¬ VW t) : fX1_rank t σ = some (-1) := by
  have h1 : ∀ c : Int32, VW c → ¬ t = c := fun c hc z => h (z ▸ hc)
  unfold fX1_rank
  rw [if_neg (h1 (-18) (by simp [VW])), if_neg (h1 (-17) (by simp [VW])), if_neg (h1 (-16) (by simp [VW])), if_neg (h1 (-15) (by simp [VW])), if_neg (h1 (-14) (by simp [VW])), if_neg (h1 (-13) (by simp [VW]))]
  by_cases q1 : t = -12
  · rw [if_pos q1]
  by_cases q2 : t = -11
  · rw [if_neg q1, if_pos q2]
  by_cases q3 : t = -9
  · rw [if_neg q1, if_neg q2, if_neg (h1 (-10) (by simp [VW])), if_pos q3]
  · rw [if_neg q1, if_neg q2, if_neg (h1 (-10) (by simp [VW])), if_neg q3, if_neg (h1 (-8) (by simp [VW])), if_neg (h1 (-7) (by simp [VW])), if_neg (h1 (-6) (by simp [VW]))]
def nop : List Int32 → Nat
  | [] => 0
  | t :: W => nop W + (if t = -8 ∨ t = -18 ∨ t = -10 then 1 else 0)
def YI (W : List Int32) (o : Nat) : Prop := nop W = o ∧ ∀ t, t ∈ W → VW t
theorem lgo_yi {r : Nat} (hr : 1 ≤ r) : ∀ (W : List Int32) (o : Nat) (C : List Int32), YI W o → YI (lgo r W o C).1 (lgo r W o C).2.1 ∧ (lgo r W o C).1.length + (lgo r W o C).2.2.length = W.length + C.length
  | [], o, C, h => ⟨h, rfl⟩
  | t :: W, o, C, h => by
    unfold lgo
    by_cases q : r ≤ rk t
    · rw [if_pos q]
      obtain ⟨h1, h2⟩ := h
      have ht : ¬ t = -10 := fun z => by rw [z, show rk (-10) = 0 from rfl] at q; omega
      have hi : YI W (if t = -8 ∨ t = -18 then o - 1 else o) := ⟨by
        unfold nop at h1
        by_cases q2 : t = -8 ∨ t = -18
        · rw [if_pos q2, ← h1, if_pos (q2.elim Or.inl (fun z => Or.inr (Or.inl z)))]; rfl
        · rw [if_neg q2, ← h1, if_neg (fun z => by
            rcases z with z | z | z
            · exact q2 (Or.inl z)
            · exact q2 (Or.inr z)
            · exact ht z)]
          rfl, fun x hx => h2 x (List.mem_cons_of_mem _ hx)⟩
      obtain ⟨a, b⟩ := lgo_yi hr W _ (t :: C) hi
      exact ⟨a, by rw [b]; simp only [List.length_cons]; omega⟩
    · rw [if_neg q]
      exact ⟨h, rfl⟩
def YR (σ : Mem) (b : Nat) (W : List Int32) (o : Nat) (C : List Int32) : Prop := σ.1 3 7 = nI W.length ∧ σ.1 3 8 = nI o ∧ SKR (σ.1 7) W ∧ σ.1 b 3 = nI C.length ∧ SKR (σ.1 (b + 1)) C
/-- the frame of the yard: fields 6, 7, 8 of the tape, rows 7, b, b+1, b+2 -/
def YF (b : Nat) (σ σ' : Mem) : Prop := (∀ j, j ≠ 3 → j ≠ 7 → j ≠ b → j ≠ b + 1 → σ'.1 j = σ.1 j) ∧ (∀ k, ¬ (6 ≤ k ∧ k ≤ 8) → σ'.1 3 k = σ.1 3 k) ∧ (∀ k, k ≠ 3 → σ'.1 b k = σ.1 b k) ∧ σ'.2 = σ.2
theorem YF.rf {b : Nat} {σ : Mem} : YF b σ σ := ⟨fun _ _ _ _ _ => rfl, fun _ _ => rfl, fun _ _ => rfl, rfl⟩
theorem YF.tr {b : Nat} {σ σ' σ'' : Mem} (h : YF b σ σ') (h' : YF b σ' σ'') : YF b σ σ'' := ⟨fun j a c d e => (h'.1 j a c d e).trans (h.1 j a c d e), fun k a => (h'.2.1 k a).trans (h.2.1 k a), fun k a => (h'.2.2.1 k a).trans (h.2.2.1 k a), h'.2.2.2.trans h.2.2.2⟩
theorem n160 {m : Nat} (h : m < 160) : ¬ (160 : Int32) ≤ nI m := nI_ge (b := 160) h (by decide)
theorem nS0 {m : Nat} (h : m < 1000) : ¬ nI (m + 1) ≤ (0 : Int32) := nI_ge (b := m + 1) (a := 0) (by omega) (by omega)
theorem letGo_eq (a : Int32) (b : Nat) (K : Mem → Option Mem) (σ : Mem) : fX1_letGo_L0 a b K σ = if (σ.1 3 7) ≤ 0 then some σ else bn1 (fX1_lastRank σ) fun r1 => if r1 < a then some σ else stp (putI σ 3 7 ((σ.1 3 7) - 1)) fun τ => gd (inB (τ.1 3 7) 160) (if (rd τ 7 (τ.1 3 7)) = (-8) then fX1_letGo_b47 a b K τ (rd τ 7 (τ.1 3 7)) else if (rd τ 7 (τ.1 3 7)) = (-18) then fX1_letGo_b47 a b K τ (rd τ 7 (τ.1 3 7)) else bn1 (fX3_add b (rd τ 7 (τ.1 3 7)) τ) fun σ5 => K σ5) := rfl
section YARD
variable {b : Nat} {σ : Mem}
theorem yf_3 (hb : 8 ≤ b) {k : Nat} (hk : 6 ≤ k ∧ k ≤ 8) (v : Int32) : YF b σ (putI σ 3 k v) := ⟨fun j a c d e => putI_row _ _ _ _ a, fun i a => putI_fld _ _ _ _ (by omega), fun i a => by rw [putI_row _ _ _ _ (by omega)], rfl⟩
theorem yf_7 (hb : 8 ≤ b) (k : Nat) (v : Int32) : YF b σ (putI σ 7 k v) := ⟨fun j a c d e => putI_row _ _ _ _ c, fun i a => by rw [putI_row _ _ _ _ (by omega)], fun i a => by rw [putI_row _ _ _ _ (by omega)], rfl⟩
theorem yf_c (hb : 8 ≤ b) (k : Nat) (v : Int32) : YF b σ (putI σ (b + 1) k v) := ⟨fun j a c d e => putI_row _ _ _ _ e, fun i a => by rw [putI_row _ _ _ _ (by omega)], fun i a => by rw [putI_row _ _ _ _ (by omega)], rfl⟩
theorem yf_b (hb : 8 ≤ b) (v : Int32) : YF b σ (putI σ b 3 v) := ⟨fun j a c d e => putI_row _ _ _ _ d, fun i a => by rw [putI_row _ _ _ _ (by omega)], fun i a => putI_fld _ _ _ _ a, rfl⟩
theorem add_ok (hb : 8 ≤ b) {W C : List Int32} {o : Nat} (h : YR σ b W o C) (hc : C.length < 160) (t : Int32) : ∃ F, fX3_add b t σ = some F ∧ YR F b W o (t :: C) ∧ YF b σ F ∧ F.1 3 = σ.1 3 := by
  obtain ⟨h7, h8, hw, h3, hC⟩ := h
  unfold fX3_add
  rw [h3, if_neg (n160 hc), gd_of (inB_nI hc (by decide)), stp_e, wr_nI (by omega), putI_row _ _ _ _ (by omega), h3, stp_e, nI_1]
  refine ⟨_, rfl, ⟨?_, ?_, ?_, putI_self .., ?_, ?_⟩, (yf_c hb _ _).tr (yf_b hb _), ?_⟩
  · rw [putI_row _ _ _ _ (by omega), putI_row _ _ _ _ (by omega)]; exact h7
  · rw [putI_row _ _ _ _ (by omega), putI_row _ _ _ _ (by omega)]; exact h8
  · rw [putI_row _ _ _ _ (by omega), putI_row _ _ _ _ (by omega)]; exact hw
  · rw [putI_row _ _ _ _ (by omega), putI_self]
  · rw [putI_row _ _ _ _ (by omega)]
    exact hC.cg (fun j hj => putI_fld _ _ _ _ (by omega))
  · rw [putI_row _ _ _ _ (by omega), putI_row _ _ _ _ (by omega)]
theorem wait_ok (hb : 8 ≤ b) {W C : List Int32} {o : Nat} (h : YR σ b W o C) (hc : W.length < 160) (t : Int32) : ∃ F, fX1_putToWait t σ = some F ∧ YR F b (t :: W) o C ∧ YF b σ F ∧ F.1 3 6 = σ.1 3 6 := by
  obtain ⟨h7, h8, hw, h3, hC⟩ := h
  unfold fX1_putToWait
  rw [h7, if_neg (n160 hc), gd_of (inB_nI hc (by decide)), stp_e, wr_nI (by omega), putI_row _ _ _ _ (by omega), h7, stp_e, nI_1]
  refine ⟨_, rfl, ⟨putI_self .., ?_, ⟨?_, ?_⟩, ?_, ?_⟩, (yf_7 hb _ _).tr (yf_3 hb (by omega) _), ?_⟩
  · rw [putI_fld _ _ _ _ (by decide), putI_row _ _ _ _ (by omega)]; exact h8
  · rw [putI_row _ _ _ _ (by omega), putI_self]
  · rw [putI_row _ _ _ _ (by omega)]
    exact hw.cg (fun j hj => putI_fld _ _ _ _ (by omega))
  · rw [putI_row _ _ _ _ (by omega), putI_row _ _ _ _ (by omega)]; exact h3
  · rw [putI_row _ _ _ _ (by omega), putI_row _ _ _ _ (by omega)]; exact hC
  · rw [putI_fld _ _ _ _ (by decide), putI_row _ _ _ _ (by omega)]
theorem lastRank_ok {W C : List Int32} {o : Nat} (h : YR σ b W o C) (hv : ∀ t, t ∈ W → VW t) (hl : W.length ≤ 160) : fX1_lastRank σ = some (nI (lr W)) := by
  obtain ⟨h7, h8, hw, h3, hC⟩ := h
  unfold fX1_lastRank
  rw [h7]
  cases W with
  | nil => rw [if_pos (show nI ([] : List Int32).length ≤ 0 by decide)]; rfl
  | cons t W =>
    have hl : W.length + 1 ≤ 160 := hl
    rw [List.length_cons, if_neg (nS0 (by omega)), nI_pred, gd_of (inB_nI (by omega) (by decide)), rd_nI (by omega), hw.1, rank_ok σ (hv t (List.mem_cons_self ..)), bn1_s]
    rfl
theorem letGo_L {r : Nat} (hb : 8 ≤ b) (hr : r < 100) : ∀ (W : List Int32) (o : Nat) (C : List Int32) (σ : Mem) (f : Nat), W.length < f → YR σ b W o C → YI W o → W.length + C.length ≤ 160 → 1 ≤ r → ∃ F, loopN (fX1_letGo_L0 (nI r) b) f σ = some F ∧ YR F b (lgo r W o C).1 (lgo r W o C).2.1 (lgo r W o C).2.2 ∧ YF b σ F ∧ F.1 3 6 = σ.1 3 6
  | [], o, C, σ, f, hf, h, hi, hl, h1 => by
    cases f with
    | zero => exact absurd hf (by simp)
    | succ f =>
      refine ⟨σ, ?_, h, YF.rf, rfl⟩
      show fX1_letGo_L0 (nI r) b _ σ = _
      rw [letGo_eq, h.1, if_pos (show nI ([] : List Int32).length ≤ 0 by decide)]
  | t :: W, o, C, σ, f, hf, h, hi, hl, h1 => by
    simp only [List.length_cons] at hf hl
    have hlr := lastRank_ok h hi.2 (by simp only [List.length_cons]; omega)
    have hvt := vw_lt (hi.2 t (List.mem_cons_self ..))
    cases f with
    | zero => omega
    | succ f =>
      show ∃ F, fX1_letGo_L0 (nI r) b (loopN _ f) σ = some F ∧ _
      rw [letGo_eq, h.1, List.length_cons, if_neg (nS0 (by omega)), hlr, bn1_s]
      unfold lgo
      show ∃ F, (if nI (rk t) < nI r then _ else _) = some F ∧ _
      by_cases q : r ≤ rk t
      · rw [if_pos q, if_neg (nI_nlt q (by omega)), stp_e, nI_pred]
        have y1 : YF b σ (putI σ 3 7 (nI W.length)) := yf_3 hb (by omega) _
        have e7 : (putI σ 3 7 (nI W.length)).1 3 7 = nI W.length := putI_self ..
        have er : (putI σ 3 7 (nI W.length)).1 7 = σ.1 7 := putI_row _ _ _ _ (by decide)
        rw [e7, gd_of (inB_nI (by omega) (by decide)), rd_nI (by omega), er, h.2.2.1.1]
        have yi := (lgo_yi h1 (t :: W) o C hi).1
        have hy : YR (putI σ 3 7 (nI W.length)) b W o C := ⟨e7, by rw [putI_fld _ _ _ _ (by decide)]; exact h.2.1, by rw [er]; exact h.2.2.1.2, by rw [putI_row _ _ _ _ (by omega)]; exact h.2.2.2.1, by rw [putI_row _ _ _ _ (by omega)]; exact h.2.2.2.2⟩
        have hi2 : YI W (if t = -8 ∨ t = -18 then o - 1 else o) ∧ (t = -8 ∨ t = -18 → 1 ≤ o) := by
          obtain ⟨n1, n2⟩ := hi
          unfold nop at n1
          have ht : ¬ t = -10 := fun z => by rw [z, show rk (-10) = 0 from rfl] at q; omega
          by_cases q2 : t = -8 ∨ t = -18
          · rw [if_pos (q2.elim Or.inl (fun z => Or.inr (Or.inl z)))] at n1
            rw [if_pos q2]
            exact ⟨⟨by omega, fun x hx => n2 x (List.mem_cons_of_mem _ hx)⟩, fun _ => by omega⟩
          · rw [if_neg (fun z => by
              rcases z with z | z | z
              · exact q2 (Or.inl z)
              · exact q2 (Or.inr z)
              · exact ht z)] at n1
            rw [if_neg q2]
            exact ⟨⟨by omega, fun x hx => n2 x (List.mem_cons_of_mem _ hx)⟩, fun z => absurd z q2⟩
        have fin : ∀ (o' : Nat) (σ1 : Mem), YR σ1 b W o' C → YI W o' → YF b σ σ1 → σ1.1 3 6 = σ.1 3 6 → ∃ F, (bn1 (fX3_add b t σ1) fun σ4 => loopN (fX1_letGo_L0 (nI r) b) f σ4) = some F ∧ YR F b (lgo r W o' (t :: C)).1 (lgo r W o' (t :: C)).2.1 (lgo r W o' (t :: C)).2.2 ∧ YF b σ F ∧ F.1 3 6 = σ.1 3 6 := fun o' σ1 a1 a2 a3 a4 => by
          obtain ⟨F1, f1, f2, f3, f4⟩ := add_ok hb a1 (by omega) t
          rw [f1, bn1_s]
          obtain ⟨F, g1, g2, g3, g4⟩ := letGo_L hb hr W o' (t :: C) F1 f (by omega) f2 a2 (by simp only [List.length_cons]; omega) h1
          exact ⟨F, g1, g2, a3.tr (f3.tr g3), by rw [g4, f4]; exact a4⟩
        have fin2 : (t = -8 ∨ t = -18) → ∃ F, fX1_letGo_b47 (nI r) b (loopN (fX1_letGo_L0 (nI r) b) f) (putI σ 3 7 (nI W.length)) t = some F ∧ YR F b (lgo r W (o - 1) (t :: C)).1 (lgo r W (o - 1) (t :: C)).2.1 (lgo r W (o - 1) (t :: C)).2.2 ∧ YF b σ F ∧ F.1 3 6 = σ.1 3 6 := fun q2 => by
          have ho := hi2.2 q2
          have e8 : (putI σ 3 7 (nI W.length)).1 3 8 = nI (o - 1 + 1) := by rw [hy.2.1, Nat.sub_add_cancel ho]
          unfold fX1_letGo_b47
          rw [stp_e, e8, nI_pred]
          have hi3 := hi2.1
          rw [if_pos q2] at hi3
          refine fin (o - 1) _ ⟨by rw [putI_fld _ _ _ _ (by decide)]; exact e7, putI_self .., by rw [putI_row _ _ _ _ (by decide)]; exact hy.2.2.1, by rw [putI_row _ _ _ _ (by omega)]; exact hy.2.2.2.1, by rw [putI_row _ _ _ _ (by omega)]; exact hy.2.2.2.2⟩ hi3 (y1.tr (yf_3 hb (by omega) _)) (by rw [putI_fld _ _ _ _ (by decide), putI_fld _ _ _ _ (by decide)])
        by_cases q8 : t = -8
        · rw [if_pos q8, if_pos (Or.inl q8)]
          exact fin2 (Or.inl q8)
        · rw [if_neg q8]
          by_cases q18 : t = -18
          · rw [if_pos q18, if_pos (Or.inr q18)]
            exact fin2 (Or.inr q18)
          · have q2 : ¬ (t = -8 ∨ t = -18) := fun z => z.elim q8 q18
            have hi3 := hi2.1
            rw [if_neg q2] at hi3
            rw [if_neg q18, if_neg q2]
            exact fin o _ hy hi3 y1 (putI_fld _ _ _ _ (by decide))
      · rw [if_neg q, if_pos (nI_lt (by omega) (by omega))]
        exact ⟨σ, rfl, h, YF.rf, rfl⟩
theorem letGo_ok {r : Nat} (hb : 8 ≤ b) (hr : r < 100) (h1 : 1 ≤ r) {W C : List Int32} {o : Nat} (h : YR σ b W o C) (hi : YI W o) (hl : W.length + C.length ≤ 160) : ∃ F, fX1_letGo (nI r) b σ = some F ∧ YR F b (lgo r W o C).1 (lgo r W o C).2.1 (lgo r W o C).2.2 ∧ YF b σ F ∧ F.1 3 6 = σ.1 3 6 := letGo_L hb hr W o C σ 1000 (by omega) h hi hl h1
end YARD
