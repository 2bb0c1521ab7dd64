/-! ===== a step of the class's yard ===== -/
theorem nop_le : ∀ W : List Int32, nop W ≤ W.length
  | [] => Nat.le_refl _
  | t :: W => by
    have := nop_le W
    simp only [nop, List.length_cons]
    split <;> omega
theorem tok_18 {t : Int32} (h : isTok t) : t ≠ -18 := by
  rcases h with rfl | rfl | rfl | rfl | rfl | rfl | rfl | rfl | rfl | rfl | rfl | rfl | rfl | rfl | rfl | rfl | ⟨j, hj, rfl⟩
  all_goals try decide
  intro z
  have := congrArg Int32.toInt z
  rw [nI_toInt (by omega), show (-18 : Int32).toInt = -18 from rfl] at this
  omega
theorem jn_vw {t : Int32} (h : jn t = true) : VW t ∧ 1 ≤ rk t ∧ rk t ≤ 6 ∧ t ≠ -10 ∧ t ≠ -8 ∧ t ≠ -18 := by
  unfold jn at h
  simp only [Bool.or_eq_true, beq_iff_eq] at h
  unfold VW
  rcases h with (((((h | h) | h) | h) | h) | h) | h <;> subst h <;> exact ⟨by decide, by decide, by decide, by decide, by decide, by decide⟩
theorem vw_jn {t : Int32} (h : VW t) (h1 : t ≠ -10) (h2 : t ≠ -8) (h3 : t ≠ -18) : jn t = true := by
  rcases h with rfl | rfl | rfl | rfl | rfl | rfl | rfl | rfl | rfl | rfl
  all_goals first | rfl | exact absurd rfl h1 | exact absurd rfl h2 | exact absurd rfl h3
theorem lr_le {W : List Int32} (hv : ∀ t, t ∈ W → VW t) : lr W ≤ 7 := by
  cases W with
  | nil => exact Nat.zero_le _
  | cons t W => exact vw_lt (hv t (List.mem_cons_self ..))
section STEP
variable {b : Nat} {σ : Mem} {W C : List Int32} {o : Nat}
theorem ends_eq (b : Nat) (σ : Mem) : fX1_ends b σ = bn1 (fX1_letGo (nI 1) b σ) fun σ2 => if (σ2.1 3 7) ≤ 0 then bn1 (fX3_endPart b σ2) fun σ3 => stp (putI σ3 3 6 ((σ3.1 3 6) + 1)) fun τ => some (1, τ) else some (0, σ2) := rfl
theorem closes_eq (b : Nat) (σ : Mem) : fX1_closes b σ = bn1 (fX1_letGo (nI 1) b σ) fun σ2 => if 0 < (σ2.1 3 7) then stp (putI σ2 3 7 ((σ2.1 3 7) - 1)) fun τ => stp (putI τ 3 8 ((τ.1 3 8) - 1)) fun τ => some (1, τ) else some (0, σ2) := rfl
theorem opn_ok (hb : 8 ≤ b) (h : YR σ b W o C) (hy : YI W o) (hl : W.length < 160) (t : Int32) (ho : o < 5) : ∃ F, fX1_opens_b35 t σ 1 = some (1, F) ∧ YR F b ((if t = -14 then -18 else t) :: W) (o + 1) C ∧ YF b σ F ∧ F.1 3 6 = σ.1 3 6 := by
  have hy8 : YR (putI σ 3 8 (nI (o + 1))) b W (o + 1) C := ⟨by rw [putI_fld _ _ _ _ (by decide)]; exact h.1, putI_self .., by rw [putI_row _ _ _ _ (by decide)]; exact h.2.2.1, by rw [putI_row _ _ _ _ (by omega)]; exact h.2.2.2.1, by rw [putI_row _ _ _ _ (by omega)]; exact h.2.2.2.2⟩
  have y8 : YF b σ (putI σ 3 8 (nI (o + 1))) := yf_3 hb (by omega) _
  unfold fX1_opens_b35
  rw [if_neg (by decide), h.2.1, if_pos (show nI o < (5 : Int32) from nI_lt (b := 5) ho (by decide)), stp_e, nI_1]
  by_cases q : t = -14
  · rw [if_pos q, if_pos q]
    obtain ⟨F, f1, f2, f3, f4⟩ := wait_ok hb hy8 hl (-18)
    rw [f1, bn1_s]
    exact ⟨F, rfl, f2, y8.tr f3, by rw [f4, putI_fld _ _ _ _ (by decide)]⟩
  · rw [if_neg q, if_neg q]
    obtain ⟨F, f1, f2, f3, f4⟩ := wait_ok hb hy8 hl t
    rw [f1, bn1_s]
    exact ⟨F, rfl, f2, y8.tr f3, by rw [f4, putI_fld _ _ _ _ (by decide)]⟩
theorem opn_no (h : YR σ b W o C) (hl : W.length < 160) (hy : YI W o) (t : Int32) (ho : ¬ o < 5) (z : Int32) : fX1_opens_b35 t σ z = some (0, σ) := by
  have hn := nop_le W
  have := hy.1
  unfold fX1_opens_b35
  by_cases q : z = 0
  · rw [if_pos q]
  · rw [if_neg q, h.2.1, if_neg (show ¬ nI o < (5 : Int32) from nI_nlt (b := 5) (by omega) (by omega))]
theorem opens_ok (hb : 8 ≤ b) (h : YR σ b W o C) (hy : YI W o) (hl : W.length < 160) (t : Int32) : (((t = -10 ∨ t = -14 ∨ (t = -8 ∧ lr W ≤ 3)) ∧ o < 5) ∧ ∃ F, fX1_opens t σ = some (1, F) ∧ YR F b ((if t = -14 then -18 else t) :: W) (o + 1) C ∧ YF b σ F ∧ F.1 3 6 = σ.1 3 6) ∨ (¬ ((t = -10 ∨ t = -14 ∨ (t = -8 ∧ lr W ≤ 3)) ∧ o < 5) ∧ fX1_opens t σ = some (0, σ)) := by
  have yes : (t = -10 ∨ t = -14 ∨ (t = -8 ∧ lr W ≤ 3)) → fX1_opens t σ = fX1_opens_b35 t σ 1 := fun q => by
    unfold fX1_opens
    rcases q with q | q | ⟨q, q2⟩
    · rw [if_pos q]; rfl
    · rw [if_neg (by rw [q]; decide), if_pos q]; rfl
    · rw [if_neg (by rw [q]; decide), if_neg (by rw [q]; decide), if_pos q, lastRank_ok h hy.2 (by omega), bn1_s, show fX1_rank (-8) σ = some (nI 3) from rfl, bn1_s, if_neg (nI_nlt q2 (by omega))]; rfl
  have no : ¬ (t = -10 ∨ t = -14 ∨ (t = -8 ∧ lr W ≤ 3)) → fX1_opens t σ = some (0, σ) := fun q => by
    have hlr := lr_le hy.2
    have q1 : ¬ t = -10 := fun z => q (Or.inl z)
    have q2 : ¬ t = -14 := fun z => q (Or.inr (Or.inl z))
    unfold fX1_opens
    rw [if_neg q1, if_neg q2]
    by_cases q3 : t = -8
    · have : ¬ lr W ≤ 3 := fun z => q (Or.inr (Or.inr ⟨q3, z⟩))
      rw [if_pos q3, lastRank_ok h hy.2 (by omega), bn1_s, show fX1_rank (-8) σ = some (nI 3) from rfl, bn1_s, if_pos (nI_lt (by omega) (by omega))]; rfl
    · rw [if_neg q3]; rfl
  by_cases q : t = -10 ∨ t = -14 ∨ (t = -8 ∧ lr W ≤ 3)
  · by_cases ho : o < 5
    · exact Or.inl ⟨⟨q, ho⟩, by rw [yes q]; exact opn_ok hb h hy hl t ho⟩
    · exact Or.inr ⟨fun z => ho z.2, by rw [yes q]; exact opn_no h hl hy t ho 1⟩
  · exact Or.inr ⟨fun z => q z.1, no q⟩
theorem joins_no {t : Int32} (hj : ¬ jn t = true) (h18 : t ≠ -18) : fX1_joins t b σ = some (0, σ) := by
  unfold fX1_joins
  by_cases q : VW t
  · rw [rank_ok σ q, bn1_s, if_neg (show ¬ nI (rk t) < (0 : Int32) from nI_nlt (b := 0) (Nat.zero_le _) (by have := vw_lt q; omega))]
    by_cases q10 : t = -10
    · rw [if_pos q10]
    · rw [if_neg q10]
      by_cases q8 : t = -8
      · rw [if_pos q8]
      · exact absurd (vw_jn q q10 q8 h18) hj
  · rw [rank_ne σ q, bn1_s, if_pos (by decide)]
theorem joins_ok (hb : 8 ≤ b) (h : YR σ b W o C) (hy : YI W o) (hl : W.length + C.length < 160) {t : Int32} (hj : jn t = true) : ∃ r F, r = (if rk t = 4 then 5 else rk t) ∧ YF b σ F ∧ F.1 3 6 = σ.1 3 6 ∧ ((rk t = 4 ∧ lr (lgo r W o C).1 = 4 ∧ fX1_joins t b σ = some (0, F)) ∨ (¬ (rk t = 4 ∧ lr (lgo r W o C).1 = 4) ∧ fX1_joins t b σ = some (1, F) ∧ YR F b (t :: (lgo r W o C).1) (lgo r W o C).2.1 (lgo r W o C).2.2)) := by
  obtain ⟨v1, v2, v3, v4, v5, v6⟩ := jn_vw hj
  have hbody : fX1_joins t b σ = if nI (rk t) = nI 4 then bn1 (fX1_letGo (nI (rk t) + 1) b σ) fun σ3 => bn1 (fX1_lastRank σ3) fun r4 => if r4 = nI (rk t) then some (0, σ3) else bn1 (fX1_putToWait t σ3) fun σ5 => some (1, σ5) else bn1 (fX1_letGo (nI (rk t)) b σ) fun σ7 => bn1 (fX1_putToWait t σ7) fun σ8 => some (1, σ8) := by
    unfold fX1_joins
    rw [rank_ok σ v1, bn1_s, if_neg (show ¬ nI (rk t) < (0 : Int32) from nI_nlt (b := 0) (Nat.zero_le _) (by omega)), if_neg v4, if_neg v5]
    rfl
  rw [hbody]
  by_cases q : rk t = 4
  · rw [if_pos (show nI (rk t) = nI 4 by rw [q]), nI_1, q]
    obtain ⟨F, f1, f2, f3, f4⟩ := letGo_ok (r := 5) hb (by decide) (by decide) h hy (by omega)
    obtain ⟨y1, y2⟩ := lgo_yi (r := 5) (by decide) W o C hy
    have hlr := lr_le y1.2
    show ∃ r F, r = (if (4 : Nat) = 4 then 5 else 4) ∧ _
    rw [f1, bn1_s, lastRank_ok f2 y1.2 (by omega), bn1_s]
    by_cases q2 : lr (lgo 5 W o C).1 = 4
    · refine ⟨5, F, rfl, f3, f4, Or.inl ⟨rfl, q2, ?_⟩⟩
      rw [q2, if_pos rfl]
    · obtain ⟨G, g1, g2, g3, g4⟩ := wait_ok hb f2 (by omega) t
      refine ⟨5, G, rfl, f3.tr g3, by rw [g4, f4], Or.inr ⟨fun z => q2 z.2, ?_, g2⟩⟩
      rw [if_neg (fun z => q2 (nI_inj (by omega) (by decide) z)), g1, bn1_s]
  · rw [if_neg (fun z => q (nI_inj (by omega) (by decide) z))]
    obtain ⟨F, f1, f2, f3, f4⟩ := letGo_ok (r := rk t) hb (by omega) v2 h hy (by omega)
    obtain ⟨y1, y2⟩ := lgo_yi v2 W o C hy
    obtain ⟨G, g1, g2, g3, g4⟩ := wait_ok hb f2 (by omega) t
    refine ⟨rk t, G, by rw [if_neg q], f3.tr g3, by rw [g4, f4], Or.inr ⟨fun z => q z.1, ?_, g2⟩⟩
    rw [f1, bn1_s, g1, bn1_s]
theorem endPart_ok {p m : Nat} (hp : p < 3) (h4 : σ.1 b 4 = nI p) (h3 : σ.1 b 3 = nI m) : fX3_endPart b σ = some (putI (putI σ (b + 2) p (nI m)) b 4 (nI (p + 1))) := by
  unfold fX3_endPart
  rw [h4, if_neg (show ¬ (3 : Int32) ≤ nI p from nI_ge (b := 3) hp (by decide)), gd_of (inB_nI hp (by decide)), stp_e, wr_nI (by omega), h3, putI_row _ _ _ _ (show b ≠ b + 2 by omega), h4, stp_e, nI_1]
end STEP
