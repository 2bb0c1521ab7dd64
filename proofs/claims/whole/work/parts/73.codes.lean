/-! ===== the class's value ===== -/
theorem putI_putR (σ : Mem) (j : Nat) (g : Nat → Int32) (k : Nat) (v : Int32) : putI (putR σ j g) j k v = putR σ j (upd g k v) := by
  refine Prod.ext (funext fun a => ?_) rfl
  by_cases q : a = j
  · subst q
    show (putI (putR σ a g) a k v).1 a = (putR σ a (upd g k v)).1 a
    rw [putR_at, if_pos rfl]
    funext i
    rw [putI_at, putR_at, if_pos rfl]
    unfold upd
    by_cases z : i = k
    · rw [if_pos ⟨rfl, z⟩, if_pos z]
    · rw [if_neg (fun y => z y.2), if_neg z]
  · rw [putI_row _ _ _ _ q, putR_at, putR_at, if_neg q, if_neg q]
theorem putR_self (σ : Mem) (j : Nat) : putR σ j (σ.1 j) = σ := by
  refine Prod.ext (funext fun a => ?_) rfl
  rw [putR_at]
  by_cases q : a = j
  · rw [if_pos q, q]
  · rw [if_neg q]
theorem upd_cg (g : Nat → Int32) (k : Nat) (v : Int32) {s : List Int32} (h : SKR g s) (hk : s.length ≤ k) : SKR (upd g k v) s := h.cg (fun j hj => by unfold upd; rw [if_neg (by omega)])
theorem upd_self (g : Nat → Int32) (k : Nat) (v : Int32) : upd g k v k = v := by unfold upd; rw [if_pos rfl]
theorem nI_toS {j : Nat} (h : j < 10006) : (nI j - 10000).toInt = (j : Int) - 10000 := by
  rw [Int32.toInt_sub, nI_toInt (by omega), show (10000 : Int32).toInt = 10000 from rfl]
  exact Int.bmod_eq_of_le (by omega) (by omega)
theorem nI_s10000 : ∀ j, j < 6 → nI (10000 + j) - 10000 = nI j := by decide
theorem nI_p1 (d : Nat) : nI (d + 1) + (-1) = nI d := by
  rw [← nI_pred d, Int32.sub_eq_add_neg]
theorem evc_nt (F : Nat → Int32) : ∀ (c stk : List Int32), vdp stk.length c → ((evc F c stk).length : Int) = stk.length + nt c
  | [], stk, _ => by show (stk.length : Int) = stk.length + 0; omega
  | x :: r, stk, h => by
    show ((evc F r (estep F stk x)).length : Int) = stk.length + (nt1 x + nt r)
    unfold vdp at h
    have key : ((estep F stk x).length : Int) = stk.length + nt1 x ∧ vdp (estep F stk x).length r := by
      unfold estep nt1
      by_cases h0 : 0 ≤ x
      · simp only [if_pos h0] at h ⊢
        exact ⟨by simp only [List.length_cons]; omega, h⟩
      simp only [if_neg h0] at h ⊢
      by_cases h8 : x = -8
      · simp only [if_pos h8, if_pos (show x = -8 ∨ x = -18 from Or.inl h8)] at h ⊢
        cases stk with
        | nil => exact absurd h.1 (by simp)
        | cons a s => exact ⟨by simp only [List.length_cons]; omega, h.2⟩
      by_cases h18 : x = -18
      · simp only [if_neg h8, if_pos h18, if_pos (show x = -8 ∨ x = -18 from Or.inr h18)] at h ⊢
        cases stk with
        | nil => exact absurd h.1 (by simp)
        | cons a s => exact ⟨by simp only [List.length_cons]; omega, h.2⟩
      have hn : ¬ (x = -8 ∨ x = -18) := fun z => z.elim h8 h18
      simp only [if_neg h8, if_neg h18, if_neg hn] at h ⊢
      cases stk with
      | nil => exact absurd h.1 (by simp)
      | cons a s =>
        cases s with
        | nil => exact absurd h.1 (by simp)
        | cons a2 s => exact ⟨by simp only [List.length_cons]; omega, h.2⟩
    have := evc_nt F r (estep F stk x) key.2
    omega
section VAL
variable {b p fa : Nat} {σ : Mem}
theorem L20_eq (b : Nat) (a1 : Int32) (b2 : Nat) (ih : Mem × Int32 × Int32 → Option (Int32 × Mem)) (τ : Mem) (y3 y4 : Int32) : fX3_value_L20 b a1 b2 ih (τ, y3, y4) = gd (inB a1 3) (if (rd τ (b + 2) a1) ≤ y4 then gd (inB 0 161) (some (rd τ (b + 3) 0, τ)) else gd (inB y4 160) (if (rd τ (b + 1) y4) < 0 then (if (rd τ (b + 1) y4) = (-8) then fX3_value_b115 b a1 b2 ih τ y3 y4 (rd τ (b + 1) y4) else if (rd τ (b + 1) y4) = (-18) then fX3_value_b115 b a1 b2 ih τ y3 y4 (rd τ (b + 1) y4) else fX3_value_b115 b a1 b2 ih τ (y3 + (-1)) y4 (rd τ (b + 1) y4)) else if 160 ≤ y3 then some (0, τ) else if ((rd τ (b + 1) y4) - 10000) < 6 then (if 10000 ≤ (rd τ (b + 1) y4) then gd (inB ((rd τ (b + 1) y4) - 10000) 6) (gd (inB y3 161) (stp (wr τ (b + 3) y3 (rd τ b2 ((rd τ (b + 1) y4) - 10000))) fun τ2 => ih (τ2, y3 + 1, y4 + 1))) else gd (inB y3 161) (stp (wr τ (b + 3) y3 (rd τ (b + 1) y4)) fun τ2 => ih (τ2, y3 + 1, y4 + 1))) else some (0, τ))) := rfl
theorem value_L (hp : p < 3) (hfa : fa ≠ b + 3) : ∀ (c : List Int32) (k : Nat) (stk : List Int32) (g : Nat → Int32) (f : Nat), c.length < f → SKR g stk → vdp stk.length c → (∀ x, x ∈ c → gc x) → RWF (σ.1 (b + 1)) k c → k + c.length ≤ 160 → σ.1 (b + 2) p = nI (k + c.length) → stk.length ≤ k → ∃ g', loopN (fX3_value_L20 b (nI p) fa) f (putR σ (b + 3) g, nI stk.length, nI k) = some (g' 0, putR σ (b + 3) g') ∧ SKR g' (evc (cut6 (σ.1 fa)) c stk) := by
  intro c
  have r2 : ∀ g, rd (putR σ (b + 3) g) (b + 2) (nI p) = σ.1 (b + 2) p := fun g => by rw [rd_nI (by omega), putR_at, if_neg (by omega)]
  induction c with
  | nil =>
    intro k stk g f hf hg hv hx hr hk he hl
    cases f with
    | zero => exact absurd hf (by simp)
    | succ f =>
      refine ⟨g, ?_, hg⟩
      show fX3_value_L20 b (nI p) fa (loopN _ f) _ = _
      rw [L20_eq, gd_of (inB_nI hp (by decide)), r2, he, List.length_nil, Nat.add_zero, if_pos (nI_le (Nat.le_refl _) (by simp only [List.length_nil] at hk; omega)), gd_of (by decide)]
      show some ((putR σ (b + 3) g).1 (b + 3) 0, _) = _
      rw [putR_at, if_pos rfl]
  | cons x r ihc =>
    intro k stk g f hf hg hv hx hr hk he hl
    simp only [List.length_cons] at hf hk he
    cases f with
    | zero => omega
    | succ f =>
      show ∃ g', fX3_value_L20 b (nI p) fa (loopN _ f) _ = _ ∧ _
      have rk1 : rd (putR σ (b + 3) g) (b + 1) (nI k) = x := by rw [rd_nI (by omega), putR_at, if_neg (by omega)]; exact hr.1
      have hxx := hx x (List.mem_cons_self ..)
      have hx2 : ∀ y, y ∈ r → gc y := fun y hy => hx y (List.mem_cons_of_mem _ hy)
      have he2 : σ.1 (b + 2) p = nI (k + 1 + r.length) := by rw [he]; congr 1; omega
      rw [L20_eq, gd_of (inB_nI hp (by decide)), r2, he, if_neg (nI_ge (by omega) (by omega)), gd_of (inB_nI (by omega) (by decide)), rk1]
      have er : ∀ g', (putR σ (b + 3) g').1 (b + 3) = g' := fun g' => by rw [putR_at, if_pos rfl]
      unfold vdp at hv
      rcases hxx with ⟨j, hj, rfl⟩ | ⟨hvw, h10⟩
      · have h0 : (0 : Int32) ≤ nI j := nI_nn (by omega)
        rw [if_pos h0] at hv
        have push : ∀ v, v = (if nI j < 10000 then nI j else cut6 (σ.1 fa) (nI j - 10000).toNatClampNeg) → ∃ g', loopN (fX3_value_L20 b (nI p) fa) f (putR σ (b + 3) (upd g stk.length v), nI (stk.length + 1), nI (k + 1)) = some (g' 0, putR σ (b + 3) g') ∧ SKR g' (evc (cut6 (σ.1 fa)) (nI j :: r) stk) := fun v hv2 => by
          have e : estep (cut6 (σ.1 fa)) stk (nI j) = v :: stk := by unfold estep; rw [if_pos h0, ← hv2]
          rw [evc_cons, e]
          exact ihc (k + 1) (v :: stk) (upd g stk.length v) f (by omega) ⟨upd_self .., upd_cg g _ v hg (Nat.le_refl _)⟩ hv hx2 hr.2 (by omega) he2 (by simp only [List.length_cons]; omega)
        have ww : ∀ v, wr (putR σ (b + 3) g) (b + 3) (nI stk.length) v = putR σ (b + 3) (upd g stk.length v) := fun v => by rw [wr_nI (by omega), putI_putR]
        rw [if_neg (show ¬ nI j < (0 : Int32) from nI_nlt (b := 0) (Nat.zero_le _) (by omega)), if_neg (n160 (by omega)), if_pos (Int32.lt_iff_toInt_lt.mpr (by rw [nI_toS hj]; show (j : Int) - 10000 < 6; omega))]
        by_cases q : j < 10000
        · rw [if_neg (show ¬ (10000 : Int32) ≤ nI j from nI_ge (b := 10000) q (by decide)), gd_of (inB_nI (by omega) (by decide)), ww, stp_e, nI_1, nI_1]
          exact push _ (by rw [if_pos (show nI j < (10000 : Int32) from nI_lt (b := 10000) q (by decide))])
        · obtain ⟨i, rfl⟩ : ∃ i, j = 10000 + i := ⟨j - 10000, by omega⟩
          rw [if_pos (show (10000 : Int32) ≤ nI (10000 + i) from nI_le (a := 10000) (by omega) (by omega)), nI_s10000 i (by omega), gd_of (inB_nI (by omega) (by decide)), gd_of (inB_nI (by omega) (by decide)), ww, stp_e, nI_1, nI_1]
          refine push _ ?_
          rw [rd_nI (by omega), putR_at, if_neg hfa, if_neg (show ¬ nI (10000 + i) < (10000 : Int32) from nI_nlt (b := 10000) (by omega) (by omega)), nI_p10000 i (by omega)]
          unfold cut6
          rw [if_pos (by omega)]
      · have hneg : x < 0 ∧ ¬ (0 : Int32) ≤ x := by
          rcases hvw with rfl | rfl | rfl | rfl | rfl | rfl | rfl | rfl | rfl | rfl <;> exact ⟨by decide, by decide⟩
        rw [if_pos hneg.1]
        rw [if_neg hneg.2] at hv
        by_cases h8 : x = -8 ∨ x = -18
        · rw [if_pos h8] at hv
          cases stk with
          | nil => exact absurd hv.1 (by simp)
          | cons a s =>
            simp only [List.length_cons] at hv hl
            have e : estep (cut6 (σ.1 fa)) (a :: s) x = (if x = -8 then (if a = 0 then 1 else 0) else if x = -18 then -a else bop x a (g (s.length + 1))) :: s := by
              unfold estep
              rw [if_neg hneg.2]
              by_cases q : x = -8
              · rw [if_pos q, if_pos q]
              · rw [if_neg q, if_neg q]
                by_cases q2 : x = -18
                · rw [if_pos q2, if_pos q2]
                · exact absurd h8 (fun z => z.elim q q2)
            have hb := b115_ok (b := b) (nI p) fa (loopN (fX3_value_L20 b (nI p) fa) f) (τ := putR σ (b + 3) g) (d := s.length) (A := a) (B := g (s.length + 1)) (by omega) ⟨hvw, h10⟩ (by rw [er]; exact hg.1) (by rw [er]) (nI k)
            have hif : (if x = (-8) then fX3_value_b115 b (nI p) fa (loopN (fX3_value_L20 b (nI p) fa) f) (putR σ (b + 3) g) (nI (a :: s).length) (nI k) x else if x = (-18) then fX3_value_b115 b (nI p) fa (loopN (fX3_value_L20 b (nI p) fa) f) (putR σ (b + 3) g) (nI (a :: s).length) (nI k) x else fX3_value_b115 b (nI p) fa (loopN (fX3_value_L20 b (nI p) fa) f) (putR σ (b + 3) g) (nI (a :: s).length + (-1)) (nI k) x) = fX3_value_b115 b (nI p) fa (loopN (fX3_value_L20 b (nI p) fa) f) (putR σ (b + 3) g) (nI (s.length + 1)) (nI k) x := by
              by_cases q : x = -8
              · rw [if_pos q]; rfl
              · rw [if_neg q, if_pos (h8.elim (fun z => absurd z q) id)]; rfl
            rw [hif, hb, putI_putR, nI_1, evc_cons, e]
            exact ihc (k + 1) (_ :: s) (upd g s.length _) f (by omega) ⟨upd_self .., upd_cg g _ _ hg.2 (Nat.le_refl _)⟩ hv.2 hx2 hr.2 (by omega) he2 (by simp only [List.length_cons]; omega)
        · rw [if_neg h8] at hv
          have q8 : ¬ x = -8 := fun z => h8 (Or.inl z)
          have q18 : ¬ x = -18 := fun z => h8 (Or.inr z)
          cases stk with
          | nil => exact absurd hv.1 (by simp)
          | cons y s1 =>
            cases s1 with
            | nil => exact absurd hv.1 (by simp)
            | cons a s =>
              simp only [List.length_cons] at hv hl
              have e : estep (cut6 (σ.1 fa)) (y :: a :: s) x = (if x = -8 then (if a = 0 then 1 else 0) else if x = -18 then -a else bop x a y) :: s := by
                unfold estep
                rw [if_neg hneg.2, if_neg q8, if_neg q18, if_neg q8, if_neg q18]
              have hb := b115_ok (b := b) (nI p) fa (loopN (fX3_value_L20 b (nI p) fa) f) (τ := putR σ (b + 3) g) (d := s.length) (A := a) (B := y) (by omega) ⟨hvw, h10⟩ (by rw [er]; exact hg.2.1) (by rw [er]; exact hg.1) (nI k)
              rw [if_neg q8, if_neg q18, List.length_cons, List.length_cons, nI_p1, hb, putI_putR, nI_1, evc_cons, e]
              exact ihc (k + 1) (_ :: s) (upd g s.length _) f (by omega) ⟨upd_self .., upd_cg g _ _ hg.2.2 (Nat.le_refl _)⟩ hv.2 hx2 hr.2 (by omega) he2 (by simp only [List.length_cons]; omega)
end VAL
