/-! ===== each level of the parsing ===== -/
theorem rev_one (A C : List Int32) (t : Int32) : (A ++ [t]).reverse ++ C = t :: (A.reverse ++ C) := by
  rw [List.reverse_append]
  rfl
theorem ngs_one (A : List Int32) (t : Int32) : ngs (A ++ [t]) = ngs A + (if t = -8 ∨ t = -18 then 1 else 0) := by
  rw [ngs_app]
  simp only [ngs]
  omega
section LEV
variable {L : Nat → Nat} {n K ρ fuel : Nat}
theorem lN43 {τ : Mem} {i : Nat} (ta : TA τ L n i) {c : Nat} (hc : c < 256) (hs : sg c ≠ -2) (ht : tk L n i = sg c) : τ.2 0 25 = lN c := by
  obtain ⟨n1, n2, n3⟩ := sg_neg hc hs
  obtain ⟨h24, hle, hh⟩ := ta
  rcases hh with ⟨e1, e2⟩ | ⟨e, e1, e2, e3, e4, e5, e6, e7⟩ | ⟨v, e1, e2, e3, e4, e5⟩ | ⟨l, e1, e2, e3, e4, e5, e6⟩ | ⟨e1, e2⟩
  · exact absurd (ht.symm.trans e1) n1
  · exfalso
    rw [ht] at e7
    unfold wcode at e7
    cases hf : fs (isW L (ts L n i) e) 12 with
    | none => rw [hf] at e7; exact hs e7
    | some w => rw [hf] at e7; exact n3 w (fs_lt12 hf) e7.symm
  · exfalso
    have := congrArg Int32.toInt (ht.symm.trans e2)
    rw [nI_toInt (by omega)] at this
    omega
  · rw [e5, sg_inj l e1 c hc hs (e2.symm.trans ht)]
  · exact absurd (ht.symm.trans e1) hs
theorem clm_term (h : Clm L n K ρ fuel 0) (hK : K ≤ 160) (hT : tk L n K = -1 ∨ tk L n K = -2) : Clm L n K ρ (fuel + 1) 1 := by
  refine level (b := fX5_term_L5 (fX5_P fuel)) (ops := fun t => t == -15) (fun τ => rfl) h (fun t ht => ?_) (fun i W t ht => ?_) (by decide) (fun i W hp => ⟨⟨by have := hp.1; unfold lvP at this ⊢; simp at this ⊢; omega, fun _ => hp.2 (by decide)⟩, hp.1⟩) (fun i W o C he hn => ?_) (fun ih τ y hb => ?_) (fun ih τ y i hx ta hb hn => ?_) (fun ih τ y i hx ta hb ho τ1 h1 v τ2 h2 => ?_) hK hT
  · have e := eq_of_beq ht
    subst e
    decide
  · have e := eq_of_beq ht
    subst e
    exact ⟨by show rk (-15) < 8; decide, fun _ _ => by show 4 ≤ rk (-15); decide⟩
  · exact ⟨fun _ z => hn (by rw [z]; rfl), fun z => by omega, fun z => by omega, fun z => by omega, fun z => by omega⟩
  · unfold fX5_term_L5
    dsimp only
    rw [sign_bad hb, bn1_s, if_pos rfl]
  · have hs := isSg ta hb 42 (by decide) (t := -15) rfl (by decide)
    unfold fX5_term_L5
    dsimp only
    rw [show (42 : Int32) = nI 42 from rfl, hs, bn1_s, if_neg (show ¬ tk L n i = -15 from fun z => hn (by rw [z]; rfl)), if_pos rfl]
  · have hs := isSg ta hb 42 (by decide) (t := -15) rfl (by decide)
    have e : tk L n i = -15 := eq_of_beq ho
    unfold fX5_term_L5
    dsimp only
    rw [show (42 : Int32) = nI 42 from rfl, hs, bn1_s, if_pos e, if_neg (by decide), h1, bn1_s, h2, bnd_s, e]
    rfl
theorem clm_added (h : Clm L n K ρ fuel 1) (hK : K ≤ 160) (hT : tk L n K = -1 ∨ tk L n K = -2) : Clm L n K ρ (fuel + 1) 2 := by
  refine level (b := fX5_added_L5 (fX5_P fuel)) (ops := fun t => t == -13 || t == -14) (fun τ => rfl) h (fun t ht => ?_) (fun i W t ht => ?_) (by decide) (fun i W hp => ⟨⟨by have := hp.1; unfold lvP at this ⊢; simp at this ⊢; omega, fun _ => hp.2 (by decide)⟩, hp.1⟩) (fun i W o C he hn => ?_) (fun ih τ y hb => ?_) (fun ih τ y i hx ta hb hn => ?_) (fun ih τ y i hx ta hb ho τ1 h1 v τ2 h2 => ?_) hK hT
  · rw [Bool.or_eq_true] at ht
    rcases ht with e | e <;> have e := eq_of_beq e <;> subst e <;> decide
  · rw [Bool.or_eq_true] at ht
    rcases ht with e | e <;> have e := eq_of_beq e <;> subst e
    · exact ⟨by show rk (-13) < 6; decide, fun _ _ => by show 4 ≤ rk (-13); decide⟩
    · exact ⟨by show rk (-14) < 6; decide, fun _ _ => by show 4 ≤ rk (-14); decide⟩
  · exact ⟨fun _ => he.1 (by decide), fun _ => ⟨fun z => hn (by rw [z]; rfl), fun z => hn (by rw [z]; rfl)⟩, fun z => by omega, fun z => by omega, fun z => by omega⟩
  · unfold fX5_added_L5
    dsimp only
    rw [sign_bad hb, bn1_s, if_pos rfl, sign_bad hb, bn1_s, if_pos rfl]
  · have hs := isSg ta hb 43 (by decide) (t := -13) rfl (by decide)
    have hs2 := isSg ta hb 45 (by decide) (t := -14) rfl (by decide)
    unfold fX5_added_L5
    dsimp only
    rw [show (43 : Int32) = nI 43 from rfl, hs, bn1_s, if_neg (show ¬ tk L n i = -13 from fun z => hn (by rw [z]; rfl)), if_pos rfl, show (45 : Int32) = nI 45 from rfl, hs2, bn1_s, if_neg (show ¬ tk L n i = -14 from fun z => hn (by rw [z]; rfl)), if_pos rfl]
  · have hs := isSg ta hb 43 (by decide) (t := -13) rfl (by decide)
    have hs2 := isSg ta hb 45 (by decide) (t := -14) rfl (by decide)
    rw [Bool.or_eq_true] at ho
    unfold fX5_added_L5 fX5_added_b23 fX5_added_b39
    dsimp only
    rcases ho with e | e <;> have e := eq_of_beq e
    · have hv := lN43 ta (c := 43) (by decide) (by decide) e
      rw [show (43 : Int32) = nI 43 from rfl, hs, bn1_s, if_pos e, if_neg (by decide), hv, if_pos (show lg_cmp (lN 43) 43 = 0 from (lg_cmp_eq _ _).mpr rfl), h1, bn1_s, h2, bnd_s, if_neg (by decide), e]
      rfl
    · have hv := lN43 ta (c := 45) (by decide) (by decide) e
      rw [show (43 : Int32) = nI 43 from rfl, hs, bn1_s, if_neg (show ¬ tk L n i = -13 by rw [e]; decide), if_pos rfl, show (45 : Int32) = nI 45 from rfl, hs2, bn1_s, if_pos e, if_neg (by decide), hv, if_neg (by decide), h1, bn1_s, h2, bnd_s, if_pos rfl, e]
      rfl
theorem w_and {τ : Mem} {i : Nat} (hx : TX τ ρ L n) (ta : TA τ L n i) (hb : τ.1 0 27 = 0) : fX5_isWord 97 110 100 0 0 0 0 0 τ = some (if tk L n i = -7 then 1 else 0) := word_ok hx ta hb (w := 4) (by decide)
theorem w_or {τ : Mem} {i : Nat} (hx : TX τ ρ L n) (ta : TA τ L n i) (hb : τ.1 0 27 = 0) : fX5_isWord 111 114 0 0 0 0 0 0 τ = some (if tk L n i = -6 then 1 else 0) := word_ok hx ta hb (w := 3) (by decide)
theorem w_not {τ : Mem} {i : Nat} (hx : TX τ ρ L n) (ta : TA τ L n i) (hb : τ.1 0 27 = 0) : fX5_isWord 110 111 116 0 0 0 0 0 τ = some (if tk L n i = -8 then 1 else 0) := word_ok hx ta hb (w := 5) (by decide)
theorem clm_both (h : Clm L n K ρ fuel 3) (hK : K ≤ 160) (hT : tk L n K = -1 ∨ tk L n K = -2) : Clm L n K ρ (fuel + 1) 4 := by
  refine level (b := fX5_both_L5 (fX5_P fuel)) (ops := fun t => t == -7) (fun τ => rfl) h (fun t ht => ?_) (fun i W t ht => ?_) (by decide) (fun i W hp => ⟨⟨by have := hp.1; unfold lvP at this ⊢; simp at this ⊢; omega, fun z => by omega⟩, hp.1⟩) (fun i W o C he hn => ?_) (fun ih τ y hb => ?_) (fun ih τ y i hx ta hb hn => ?_) (fun ih τ y i hx ta hb ho τ1 h1 v τ2 h2 => ?_) hK hT
  · have e := eq_of_beq ht
    subst e
    decide
  · have e := eq_of_beq ht
    subst e
    exact ⟨by show rk (-7) < 4; decide, fun z => by omega⟩
  · exact ⟨fun _ => he.1 (by decide), fun _ => he.2.1 (by decide), fun _ => he.2.2.1 (by decide), fun _ z => hn (by rw [z]; rfl), fun z => by omega⟩
  · unfold fX5_both_L5
    dsimp only
    rw [word_bad hb, bn1_s, if_pos rfl]
  · unfold fX5_both_L5
    dsimp only
    rw [w_and hx ta hb, bn1_s, if_neg (show ¬ tk L n i = -7 from fun z => hn (by rw [z]; rfl)), if_pos rfl]
  · have e : tk L n i = -7 := eq_of_beq ho
    unfold fX5_both_L5
    dsimp only
    rw [w_and hx ta hb, bn1_s, if_pos e, if_neg (by decide), h1, bn1_s, h2, bnd_s, e]
    have eb : bop (-7) y v = if y = 0 ∨ v = 0 then 0 else 1 := rfl
    rw [eb]
    by_cases q : y = 0
    · rw [if_pos q, if_pos (Or.inl q)]
    · rw [if_neg q]
      by_cases q2 : v = 0
      · rw [if_pos q2, if_pos (Or.inr q2)]
      · rw [if_neg q2, if_neg (fun z => z.elim q q2)]
theorem clm_either (h : Clm L n K ρ fuel 4) (hK : K ≤ 160) (hT : tk L n K = -1 ∨ tk L n K = -2) : Clm L n K ρ (fuel + 1) 5 := by
  refine level (b := fX5_either_L5 (fX5_P fuel)) (ops := fun t => t == -6) (fun τ => rfl) h (fun t ht => ?_) (fun i W t ht => ?_) (by decide) (fun i W hp => ⟨⟨by have := hp.1; unfold lvP at this ⊢; simp at this ⊢; omega, fun z => by omega⟩, hp.1⟩) (fun i W o C he hn => ?_) (fun ih τ y hb => ?_) (fun ih τ y i hx ta hb hn => ?_) (fun ih τ y i hx ta hb ho τ1 h1 v τ2 h2 => ?_) hK hT
  · have e := eq_of_beq ht
    subst e
    decide
  · have e := eq_of_beq ht
    subst e
    exact ⟨by show rk (-6) < 2; decide, fun z => by omega⟩
  · exact ⟨fun _ => he.1 (by decide), fun _ => he.2.1 (by decide), fun _ => he.2.2.1 (by decide), fun _ => he.2.2.2.1 (by decide), fun _ z => hn (by rw [z]; rfl)⟩
  · unfold fX5_either_L5
    dsimp only
    rw [word_bad hb, bn1_s, if_pos rfl]
  · unfold fX5_either_L5
    dsimp only
    rw [w_or hx ta hb, bn1_s, if_neg (show ¬ tk L n i = -6 from fun z => hn (by rw [z]; rfl)), if_pos rfl]
  · have e : tk L n i = -6 := eq_of_beq ho
    unfold fX5_either_L5
    dsimp only
    rw [w_or hx ta hb, bn1_s, if_pos e, if_neg (by decide), h1, bn1_s, h2, bnd_s, e]
    have eb : bop (-6) y v = if y = 0 ∧ v = 0 then 0 else 1 := rfl
    rw [eb]
    by_cases q : y = 0
    · rw [if_pos q]
      by_cases q2 : v = 0
      · rw [if_pos q2, if_pos ⟨q, q2⟩]
      · rw [if_neg q2, if_neg (fun z => q2 z.2)]
    · rw [if_neg q, if_neg (fun z => q z.1)]
/-- one more is open, on both sides: behind it the sublevel -/
theorem mopens {τ : Mem} {i o : Nat} (hx : TX τ ρ L n) (ta : TA τ L n i) (hb : τ.1 0 27 = 0) (h26 : τ.1 0 26 = nI o) (ho : o ≤ 5) (h1 : tk L n i ≠ -1) (h2 : tk L n i ≠ -2) : (o = 5 ∧ ∃ F, fX5_opens τ = some (0, F) ∧ ¬ F.1 0 27 = 0 ∧ F.1 0 28 = nI (ts L n i) ∧ PF τ F) ∨ (o < 5 ∧ ∃ F, fX5_opens τ = some (1, F) ∧ TA F L n (i + 1) ∧ F.1 0 27 = 0 ∧ F.1 0 26 = nI (o + 1) ∧ PF τ F) := by
  unfold fX5_opens
  rw [h26, if_eq_lit (L := 5) (k := 5) rfl (by omega) (by decide)]
  by_cases q : o = 5
  · left
    obtain ⟨F, f1, f2, f3, f4⟩ := fail_ok hb
    rw [if_pos q, f1, bn1_s]
    exact ⟨q, F, rfl, by rw [f2]; decide, by rw [f3]; exact ta.1, f4⟩
  · right
    rw [if_neg q, stp_e, nI_1]
    have p1 : PF τ (putI τ 0 26 (nI (o + 1))) := pf_put PF.rf (by omega) _
    have ta1 : TA (putI τ 0 26 (nI (o + 1))) L n i := by
      obtain ⟨a, b, c⟩ := ta
      refine ⟨by rw [putI_fld _ _ _ _ (by decide)]; exact a, b, ?_⟩
      rw [putI_fld _ _ _ _ (show 23 ≠ 26 by decide), putI_2, putI_fld _ _ _ _ (show 22 ≠ 26 by decide)]
      exact c
    obtain ⟨F, n1, n2, n3⟩ := mnext (hx.pf p1) ta1 h1 h2
    rw [n1, bn1_s]
    exact ⟨by omega, F, rfl, n2, by rw [n3.2.1 27 (by omega), putI_fld _ _ _ _ (by decide)]; exact hb, by rw [n3.2.1 26 (by omega), putI_self], p1.tr n3.pf⟩
theorem clm_not (hA : Clm L n K ρ fuel 2) (hN : Clm L n K ρ fuel 3) (hK : K ≤ 160) (hT : tk L n K = -1 ∨ tk L n K = -2) : Clm L n K ρ (fuel + 1) 3 := by
  intro o i W C τ hf ho hi hx ta hb h26 hp
  have hp1 : lr W < 4 := hp.1
  show Res L n K 3 o i W C τ (fX5_not (fX5_P fuel) τ)
  unfold fX5_not
  rw [w_not hx ta hb, bn1_s]
  by_cases q : tk L n i = -8
  · have hlt : i < K := by
      rcases Nat.lt_or_ge i K with z | z
      · exact z
      · exfalso
        have e : i = K := by omega
        rw [e] at q
        rcases hT with y | y <;> rw [y] at q <;> exact absurd q (by decide)
    rw [if_pos q, if_neg (by decide)]
    rcases mopens hx ta hb h26 ho (by rw [q]; decide) (by rw [q]; decide) with ⟨h5, F, f1, f2, f3, f4⟩ | ⟨h5, F, f1, f2, f3, f4, f5⟩
    · rw [f1, bnd_s, if_pos rfl]
      have hst : ystep (tk L n) (i, true, W, o, C) = .inr (false, i, C) := by
        unfold ystep
        dsimp only
        rw [if_pos rfl, q, if_neg (by decide), if_neg (fun z => by omega)]
      exact ⟨0, F, rfl, f4, Or.inl ⟨f2, i, Nat.le_refl _, hi, f3, rfl_1 hst⟩⟩
    · rw [f1, bnd_s, if_neg (by decide)]
      have hst : ystep (tk L n) (i, true, W, o, C) = .inl (i + 1, true, -8 :: W, o + 1, C) := by
        unfold ystep
        dsimp only
        rw [if_pos rfl, q, if_neg (by decide), if_pos ⟨Or.inr (Or.inr ⟨rfl, by omega⟩), h5⟩, if_neg (by decide)]
      have hr := rch_1 hst rfl
      obtain ⟨v, τ', s1, s2, s3⟩ := hN (o + 1) (i + 1) (-8 :: W) C F (by omega) (by omega) hlt (hx.pf f5) f2 f3 f4 ⟨by show rk (-8) < 4; decide, fun z => by omega⟩
      rw [s1, bnd_s, stp_e]
      have pt := f5.tr s2
      have pe : PF τ (putI τ' 0 26 ((τ'.1 0 26) - 1)) := pf_put pt (by omega) _
      rcases s3 with ⟨b1, j, j1, j2, j3, j4⟩ | ⟨g1, i', W', c, C', g2, g3, g4, g5, g6, g7, g8, g9, g10⟩
      · have e : ∃ v', (if v = 0 then some ((1 : Int32), putI τ' 0 26 ((τ'.1 0 26) - 1)) else some (0, putI τ' 0 26 ((τ'.1 0 26) - 1))) = some (v', putI τ' 0 26 ((τ'.1 0 26) - 1)) := by
          by_cases z : v = 0
          · rw [if_pos z]; exact ⟨_, rfl⟩
          · rw [if_neg z]; exact ⟨_, rfl⟩
        obtain ⟨v', hv'⟩ := e
        rw [hv']
        exact ⟨v', _, rfl, pe, Or.inl ⟨by rw [putI_fld _ _ _ _ (by decide)]; exact b1, j, by omega, j2, by rw [putI_fld _ _ _ _ (by decide)]; exact j3, hr.fl j4⟩⟩
      · have ew : W' ++ (-8 :: W) = (W' ++ [-8]) ++ W := by simp
        have eo : o + 1 + ngs W' = o + ngs (W' ++ [-8]) := by rw [ngs_one, if_pos (Or.inl rfl)]; omega
        rw [ew, eo] at g6 g10
        rw [g5, nI_pred]
        have e : (if v = 0 then some ((1 : Int32), putI τ' 0 26 (nI o)) else some (0, putI τ' 0 26 (nI o))) = some (if v = 0 then 1 else 0, putI τ' 0 26 (nI o)) := by
          by_cases z : v = 0
          · rw [if_pos z, if_pos z]
          · rw [if_neg z, if_neg z]
        rw [e]
        refine ⟨_, _, rfl, pf_put pt (by omega) _, Or.inr ⟨by rw [putI_fld _ _ _ _ (by decide)]; exact g1, i', W' ++ [-8], c ++ [-8], C', by omega, g3, ?_, putI_self .., hr.tr g6, fun t ht => ?_, ?_, fun stk => ?_, g10⟩⟩
        · obtain ⟨a, b, d⟩ := g4
          refine ⟨by rw [putI_fld _ _ _ _ (by decide)]; exact a, b, ?_⟩
          rw [putI_fld _ _ _ _ (show 23 ≠ 26 by decide), putI_2, putI_fld _ _ _ _ (show 22 ≠ 26 by decide)]
          exact d
        · rcases List.mem_append.mp ht with z | z
          · exact g7 t z
          · rw [List.mem_singleton.mp z]; decide
        · rw [rev_one, rev_one, g8]
        · have := g9 stk
          rw [ofM_pf f5] at this
          rw [evc_app, this, evc_one]
          rfl
  · rw [if_neg q, if_pos rfl]
    have hs := hA o i W C τ (by omega) ho hi hx ta hb h26 ⟨by show lr W < 5; omega, fun _ z => absurd z q⟩
    refine hs.up (fun v τ' e hbd => ⟨v, ?_⟩) (fun v τ' e g1 pf hg => ?_)
    · rw [e, bnd_s, sign_bad hbd, bn1_s, if_pos rfl, sign_bad hbd, bn1_s, if_pos rfl]
    · obtain ⟨i1, W1, c1, C1, a1, a2, a3, a4, a5, a6, a7, a8, a9⟩ := hg
      rw [e, bnd_s]
      have i60 := isSg a3 g1 60 (by decide) (t := -16) rfl (by decide)
      have i61 := isSg a3 g1 61 (by decide) (t := -17) rfl (by decide)
      rw [show (60 : Int32) = nI 60 from rfl, i60, bn1_s, show (61 : Int32) = nI 61 from rfl, i61, bn1_s]
      by_cases qc : tk L n i1 = -16 ∨ tk L n i1 = -17
      · have hlt : i1 < K := by
          rcases Nat.lt_or_ge i1 K with z | z
          · exact z
          · exfalso
            have e : i1 = K := by omega
            rw [e] at qc
            rcases hT with y | y <;> rw [y] at qc <;> rcases qc with x | x <;> exact absurd x (by decide)
        have hb77 : (if (if tk L n i1 = -16 then (1 : Int32) else 0) = 0 then if (if tk L n i1 = -17 then (1 : Int32) else 0) = 0 then some (v, τ') else fX5_not_b77 (fX5_P fuel) τ' v else fX5_not_b77 (fX5_P fuel) τ' v) = fX5_not_b77 (fX5_P fuel) τ' v := by
          rcases qc with x | x
          · rw [if_pos x, if_neg (by decide)]
          · rw [if_neg (show ¬ tk L n i1 = -16 by rw [x]; decide), if_pos rfl, if_pos x, if_neg (by decide)]
        rw [hb77]
        have tne : tk L n i1 ≠ -1 ∧ tk L n i1 ≠ -2 ∧ tk L n i1 ≠ -12 ∧ tk L n i1 ≠ -11 ∧ tk L n i1 ≠ -8 ∧ tk L n i1 ≠ -18 ∧ jn (tk L n i1) = true ∧ rk (tk L n i1) = 4 ∧ ¬ (0 : Int32) ≤ tk L n i1 := by
          rcases qc with x | x <;> rw [x] <;> decide
        obtain ⟨t1, t2, t3, t4, t5, t6, t7, t8, t9⟩ := tne
        obtain ⟨τ2, n1, n2, n3⟩ := mnext (hx.pf pf) a3 t1 t2
        have p2 : PF τ τ2 := pf.tr n3.pf
        have hg : lgo 5 (W1 ++ W) (o + ngs W1) C1 = (W, o, c1.reverse ++ C) := by
          have z := lgo_all (r := 5) W1 W o C1 a6 (Or.inr (by omega))
          rw [z, a7]
        have hst : ystep (tk L n) (i1, false, W1 ++ W, o + ngs W1, C1) = .inl (i1 + 1, true, tk L n i1 :: W, o, c1.reverse ++ C) := by
          unfold ystep
          dsimp only
          rw [if_neg (by decide), if_neg t3, if_neg t4, if_pos t7, if_pos t8, hg, if_neg (by dsimp only; omega)]
        have hr2 : Rch (tk L n) (i, true, W, o, C) (i1 + 1, true, tk L n i1 :: W, o, c1.reverse ++ C) := a5.tr (rch_1 hst rfl)
        obtain ⟨v2, τ3, s1, s2, s3⟩ := hA o (i1 + 1) (tk L n i1 :: W) (c1.reverse ++ C) τ2 (by omega) ho hlt (hx.pf p2) n2 (by rw [n3.2.1 27 (by omega)]; exact g1) (by rw [n3.2.1 26 (by omega)]; exact a4) ⟨by show rk (tk L n i1) < 5; omega, fun _ _ => by show 4 ≤ rk (tk L n i1); omega⟩
        have hval : fX5_not_b77 (fX5_P fuel) τ' v = some (bop (tk L n i1) v v2, τ3) := by
          unfold fX5_not_b77 fX5_not_b93
          rcases qc with x | x
          · have hv := lN43 a3 (c := 60) (by decide) (by decide) x
            rw [hv, if_pos (show lg_cmp (lN 60) 60 = 0 from (lg_cmp_eq _ _).mpr rfl), n1, bn1_s, s1, bnd_s, if_neg (by decide), x]
            have eb : bop (-16) v v2 = if v < v2 then 1 else 0 := rfl
            rw [eb]
            by_cases z : v2 ≤ v
            · rw [if_pos z, if_neg (fun y => by have := Int32.le_iff_toInt_le.mp z; have := Int32.lt_iff_toInt_lt.mp y; omega)]
            · rw [if_neg z, if_pos (Int32.lt_iff_toInt_lt.mpr (by
                have : ¬ v2.toInt ≤ v.toInt := fun y => z (Int32.le_iff_toInt_le.mpr y)
                omega))]
          · have hv := lN43 a3 (c := 61) (by decide) (by decide) x
            rw [hv, if_neg (show ¬ lg_cmp (lN 61) 60 = 0 by decide), n1, bn1_s, s1, bnd_s, if_pos rfl, x]
            have eb : bop (-17) v v2 = if v = v2 then 1 else 0 := rfl
            rw [eb]
            by_cases z : v = v2
            · rw [if_pos z, if_pos z]
            · rw [if_neg z, if_neg z]
        rw [hval]
        have p3 : PF τ τ3 := p2.tr s2
        rcases s3 with ⟨b1, j, j1, j2, j3, j4⟩ | ⟨k1, i2, W2, c2, C2, k2, k3, k4, k5, k6, k7, k8, k9, k10⟩
        · exact ⟨_, τ3, rfl, p3, Or.inl ⟨b1, j, by omega, j2, j3, hr2.fl j4⟩⟩
        · have eo : o + ngs W2 = o + ngs (W2 ++ [tk L n i1]) := by rw [ngs_one, if_neg (fun z => z.elim t5 t6)]; omega
          have ew : W2 ++ (tk L n i1 :: W) = (W2 ++ [tk L n i1]) ++ W := by simp
          have hg2 : lgo 5 (W2 ++ (tk L n i1 :: W)) (o + ngs W2) C2 = (tk L n i1 :: W, o, W2.reverse ++ C2) := lgo_all W2 _ o C2 k7 (Or.inr (by show rk (tk L n i1) < 5; omega))
          have e3 : (tk L n i2 = -16 ∨ tk L n i2 = -17) → ∃ C1, ystep (tk L n) (i2, false, (W2 ++ [tk L n i1]) ++ W, o + ngs (W2 ++ [tk L n i1]), C2) = .inr (false, i2, C1) := fun z => by
            have u : tk L n i2 ≠ -12 ∧ tk L n i2 ≠ -11 ∧ jn (tk L n i2) = true ∧ rk (tk L n i2) = 4 := by rcases z with y | y <;> rw [y] <;> decide
            refine ⟨W2.reverse ++ C2, ?_⟩
            rw [← ew, ← eo]
            unfold ystep
            dsimp only
            rw [if_neg (by decide), if_neg u.1, if_neg u.2.1, if_pos u.2.2.1, if_pos u.2.2.2, hg2]
            dsimp only
            rw [if_pos (show lr (tk L n i1 :: W) = 4 from t8)]
          rw [eo, ew] at k6 k10
          refine ⟨_, τ3, rfl, p3, Or.inr ⟨k1, i2, W2 ++ [tk L n i1], c1 ++ c2 ++ [tk L n i1], C2, by omega, k3, k4, k5, hr2.tr k6, fun t ht => ?_, ?_, fun stk => ?_, ⟨fun _ => k10.1 (by decide), fun _ => k10.2.1 (by decide), fun _ => e3, fun z => by omega, fun z => by omega⟩⟩⟩
          · rcases List.mem_append.mp ht with z | z
            · have := k7 t z
              exact Nat.le_trans (by decide) this
            · rw [List.mem_singleton.mp z, t8]; decide
          · rw [rev_one, k8, rev_one, List.reverse_append, List.append_assoc]
          · rw [evc_app, evc_app, a8]
            have := k9 (v :: stk)
            rw [ofM_pf p2] at this
            rw [this, evc_one]
            unfold estep
            rw [if_neg t9, if_neg t5, if_neg t6]
      · have q16 : ¬ tk L n i1 = -16 := fun z => qc (Or.inl z)
        have q17 : ¬ tk L n i1 = -17 := fun z => qc (Or.inr z)
        rw [if_neg q16, if_pos rfl, if_neg q17, if_pos rfl]
        exact ⟨v, τ', rfl, pf, Or.inr ⟨g1, i1, W1, c1, C1, a1, a2, a3, a4, a5, fun t ht => Nat.le_trans (by decide) (a6 t ht), a7, a8, ⟨fun _ => a9.1 (by decide), fun _ => a9.2.1 (by decide), fun _ z => absurd z qc, fun z => by omega, fun z => by omega⟩⟩⟩
end LEV
