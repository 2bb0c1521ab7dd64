/-! ===== the atom ===== -/
theorem due_no {T : Nat → Int32} {i : Nat} {W C : List Int32} {o : Nat} (h0 : ¬ (0 : Int32) ≤ T i) (h1 : T i ≠ -10) (h2 : T i ≠ -14) (h3 : T i = -8 → 4 ≤ lr W) : ystep T (i, true, W, o, C) = .inr (false, i, C) := by
  unfold ystep
  dsimp only
  rw [if_pos rfl, if_neg h0, if_neg (fun z => by
    rcases z.1 with y | y | ⟨y, u⟩
    · exact h1 y
    · exact h2 y
    · have := h3 y
      omega)]
theorem due_num {T : Nat → Int32} {i : Nat} {W C : List Int32} {o : Nat} (h0 : (0 : Int32) ≤ T i) : ystep T (i, true, W, o, C) = .inl (i + 1, false, W, o, T i :: C) := by
  unfold ystep
  dsimp only
  rw [if_pos rfl, if_pos h0]
theorem nI_nn {v : Nat} (h : v < 2147483648) : (0 : Int32) ≤ nI v := by
  rw [Int32.le_iff_toInt_le, nI_toInt h]
  exact Int.natCast_nonneg v
theorem nI_p10000 : ∀ j, j < 6 → (nI (10000 + j) - 10000).toNatClampNeg = j := by decide
section ATOM
variable {L : Nat → Nat} {n K ρ fuel : Nat}
theorem wn_6 {τ : Mem} {i : Nat} (hx : TX τ ρ L n) (ta : TA τ L n i) (hb : τ.1 0 27 = 0) : ∃ y, fX5_isWord 102 111 114 99 101 0 0 0 τ = some (if tk L n i = nI 10000 then 1 else 0) ∧ fX5_isWord 110 117 109 98 101 114 0 0 τ = some (if tk L n i = nI 10001 then 1 else 0) ∧ fX5_isWord 114 111 119 0 0 0 0 0 τ = some (if tk L n i = nI 10002 then 1 else 0) ∧ fX5_isWord 99 111 108 117 109 110 0 0 τ = some (if tk L n i = nI 10003 then 1 else 0) ∧ fX5_isWord 107 105 110 0 0 0 0 0 τ = some (if tk L n i = nI 10004 then 1 else 0) ∧ fX5_isWord 119 101 101 107 0 0 0 0 τ = some (if tk L n i = nI 10005 then 1 else 0) ∧ y = 0 :=
  ⟨0, word_ok hx ta hb (w := 6) (by decide), word_ok hx ta hb (w := 7) (by decide), word_ok hx ta hb (w := 8) (by decide), word_ok hx ta hb (w := 9) (by decide), word_ok hx ta hb (w := 10) (by decide), word_ok hx ta hb (w := 11) (by decide), rfl⟩
theorem name_ok {τ : Mem} {i : Nat} (hx : TX τ ρ L n) (ta : TA τ L n i) (hb : τ.1 0 27 = 0) : (∃ j, j < 6 ∧ tk L n i = nI (10000 + j) ∧ fX5_name τ = some (ofM τ j, τ)) ∨ ((∀ j, j < 6 → tk L n i ≠ nI (10000 + j)) ∧ fX5_name τ = bn1 (fX5_fail τ) fun σ => some (0, σ)) := by
  obtain ⟨_, a0, a1, a2, a3, a4, a5, _⟩ := wn_6 hx ta hb
  unfold fX5_name
  rw [a0, bn1_s, a1, bn1_s, a2, bn1_s, a3, bn1_s, a4, bn1_s, a5, bn1_s]
  by_cases q0 : tk L n i = nI 10000
  · left
    refine ⟨0, by decide, q0, ?_⟩
    rw [if_pos q0, if_neg (by decide)]
    rfl
  by_cases q1 : tk L n i = nI 10001
  · left
    refine ⟨1, by decide, q1, ?_⟩
    rw [if_neg q0, if_pos rfl, if_pos q1, if_neg (by decide)]
    rfl
  by_cases q2 : tk L n i = nI 10002
  · left
    refine ⟨2, by decide, q2, ?_⟩
    rw [if_neg q0, if_pos rfl, if_neg q1, if_pos rfl, if_pos q2, if_neg (by decide)]
    rfl
  by_cases q3 : tk L n i = nI 10003
  · left
    refine ⟨3, by decide, q3, ?_⟩
    rw [if_neg q0, if_pos rfl, if_neg q1, if_pos rfl, if_neg q2, if_pos rfl, if_pos q3, if_neg (by decide)]
    rfl
  by_cases q4 : tk L n i = nI 10004
  · left
    refine ⟨4, by decide, q4, ?_⟩
    rw [if_neg q0, if_pos rfl, if_neg q1, if_pos rfl, if_neg q2, if_pos rfl, if_neg q3, if_pos rfl, if_pos q4, if_neg (by decide)]
    rfl
  by_cases q5 : tk L n i = nI 10005
  · left
    refine ⟨5, by decide, q5, ?_⟩
    rw [if_neg q0, if_pos rfl, if_neg q1, if_pos rfl, if_neg q2, if_pos rfl, if_neg q3, if_pos rfl, if_neg q4, if_pos rfl, if_pos q5, if_neg (by decide)]
    rfl
  right
  refine ⟨fun j hj => ?_, ?_⟩
  · rcases (show j = 0 ∨ j = 1 ∨ j = 2 ∨ j = 3 ∨ j = 4 ∨ j = 5 by omega) with rfl | rfl | rfl | rfl | rfl | rfl <;> assumption
  · rw [if_neg q0, if_pos rfl, if_neg q1, if_pos rfl, if_neg q2, if_pos rfl, if_neg q3, if_pos rfl, if_neg q4, if_pos rfl, if_neg q5, if_pos rfl]
theorem atom_fail {τ : Mem} {o i : Nat} {W C : List Int32} (hi : i ≤ K) (ta : TA τ L n i) (hb : τ.1 0 27 = 0) (hst : ystep (tk L n) (i, true, W, o, C) = .inr (false, i, C)) : Res L n K 0 o i W C τ (bn1 (fX5_fail τ) fun σ => some (0, σ)) := by
  obtain ⟨F, f1, f2, f3, f4⟩ := fail_ok hb
  rw [f1, bn1_s]
  exact ⟨0, F, rfl, f4, Or.inl ⟨by rw [f2]; decide, i, Nat.le_refl _, hi, by rw [f3]; exact ta.1, rfl_1 hst⟩⟩
theorem sub_ta {τ : Mem} {i : Nat} (h : TA τ L n i) (v : Int32) : TA (putI τ 0 26 v) L n i := by
  obtain ⟨a, b, d⟩ := h
  refine ⟨by rw [putI_fld _ _ _ _ (by decide)]; exact a, b, ?_⟩
  rw [putI_fld _ _ _ _ (show 23 ≠ 26 by decide), putI_2, putI_fld _ _ _ _ (show 22 ≠ 26 by decide)]
  exact d
theorem b123_w {τ : Mem} (hb : τ.1 0 27 = 0) (h : τ.1 0 23 = 1) : fX5_atom_b123 (fX5_P fuel) τ 0 = bnd (fX5_name τ) fun r5 σ5 => (if (σ5.1 0 27) = 0 then (bn1 (fX5_next σ5) fun σ6 => some (r5, σ6)) else some (r5, σ5)) := by
  unfold fX5_atom_b123
  rw [if_pos hb, if_pos h]
theorem b123_f {τ : Mem} (hb : τ.1 0 27 = 0) (h : τ.1 0 23 ≠ 1) : fX5_atom_b123 (fX5_P fuel) τ 0 = bn1 (fX5_fail τ) fun σ => some (0, σ) := by
  unfold fX5_atom_b123
  rw [if_pos hb, if_neg h]
/-- a plain atom -/
theorem atom_leaf {o i : Nat} {W C : List Int32} {τ : Mem} (hi : i < K) (hx : TX τ ρ L n) (ta : TA τ L n i) (h26 : τ.1 0 26 = nI o) (hb : τ.1 0 27 = 0) (h0 : (0 : Int32) ≤ tk L n i) {v : Int32} (hv : ∀ stk, estep (ofM τ) stk (tk L n i) = v :: stk) : Res L n K 0 o i W C τ (bn1 (fX5_next τ) fun σ => some (v, σ)) := by
  obtain ⟨F, n1, n2, n3⟩ := mnext hx ta (fun z => by rw [z] at h0; exact absurd h0 (by decide)) (fun z => by rw [z] at h0; exact absurd h0 (by decide))
  rw [n1, bn1_s]
  exact ⟨v, F, rfl, n3.pf, Or.inr ⟨by rw [n3.2.1 27 (by omega)]; exact hb, i + 1, [], [tk L n i], tk L n i :: C, by omega, hi, n2, by rw [n3.2.1 26 (by omega)]; exact h26, rch_1 (due_num h0) rfl, fun t ht => absurd ht (List.not_mem_nil), rfl, fun stk => by rw [evc_one]; exact hv stk, ⟨fun z => by omega, fun z => by omega, fun z => by omega, fun z => by omega, fun z => by omega⟩⟩⟩
theorem lt_K {i : Nat} {t : Int32} (hi : i ≤ K) (hT : tk L n K = -1 ∨ tk L n K = -2) (h : tk L n i = t) (h1 : t ≠ -1) (h2 : t ≠ -2) : i < K := by
  rcases Nat.lt_or_ge i K with z | z
  · exact z
  · exfalso
    have e : i = K := by omega
    rw [e] at h
    rcases hT with y | y <;> rw [y] at h
    · exact h1 h.symm
    · exact h2 h.symm
theorem lt_K0 {i : Nat} (hi : i ≤ K) (hT : tk L n K = -1 ∨ tk L n K = -2) (h : (0 : Int32) ≤ tk L n i) : i < K := lt_K hi hT rfl (fun z => by rw [z] at h; exact absurd h (by decide)) (fun z => by rw [z] at h; exact absurd h (by decide))
theorem clm_atom (hA : Clm L n K ρ fuel 0) (hE : Clm L n K ρ fuel 5) (hT : tk L n K = -1 ∨ tk L n K = -2) : Clm L n K ρ (fuel + 1) 0 := by
  intro o i W C τ hf ho hi hx ta hb h26 hp
  show Res L n K 0 o i W C τ (fX5_atom (fX5_P fuel) τ)
  have s45 := isSg ta hb 45 (by decide) (t := -14) rfl (by decide)
  have s40 := isSg ta hb 40 (by decide) (t := -10) rfl (by decide)
  unfold fX5_atom
  rw [show (45 : Int32) = nI 45 from rfl, s45, bn1_s]
  by_cases q14 : tk L n i = -14
  · have hlt : i < K := lt_K hi hT q14 (by decide) (by decide)
    rw [if_pos q14, if_neg (by decide)]
    rcases mopens hx ta hb h26 ho (by rw [q14]; decide) (by rw [q14]; decide) with ⟨h5, F, f1, f2, f3, f4⟩ | ⟨h5, F, f1, f2, f3, f4, f5⟩
    · rw [f1, bnd_s, if_pos rfl]
      have hst : ystep (tk L n) (i, true, W, o, C) = .inr (false, i, C) := by
        unfold ystep
        dsimp only
        rw [if_pos rfl, q14, if_neg (by decide), if_neg (fun z => by omega)]
      exact ⟨0, F, rfl, f4, Or.inl ⟨f2, i, Nat.le_refl _, hi, f3, rfl_1 hst⟩⟩
    · rw [f1, bnd_s, if_neg (by decide)]
      have hst : ystep (tk L n) (i, true, W, o, C) = .inl (i + 1, true, -18 :: W, o + 1, C) := by
        unfold ystep
        dsimp only
        rw [if_pos rfl, q14, if_neg (by decide), if_pos ⟨Or.inr (Or.inl rfl), h5⟩, if_pos rfl]
      have hr := rch_1 hst rfl
      obtain ⟨v, τ', s1, s2, s3⟩ := hA (o + 1) (i + 1) (-18 :: W) C F (by omega) (by omega) hlt (hx.pf f5) f2 f3 f4 ⟨by show rk (-18) < 8; decide, fun _ _ => by show 4 ≤ rk (-18); decide⟩
      rw [s1, bnd_s, stp_e]
      have pt := f5.tr s2
      have pe : PF τ (putI τ' 0 26 ((τ'.1 0 26) - 1)) := pf_put pt (by omega) _
      rcases s3 with ⟨b1, j, j1, j2, j3, j4⟩ | ⟨g1, i', W', c, C', g2, g3, g4, g5, g6, g7, g8, g9, g10⟩
      · exact ⟨_, _, rfl, pe, Or.inl ⟨by rw [putI_fld _ _ _ _ (by decide)]; exact b1, j, by omega, j2, by rw [putI_fld _ _ _ _ (by decide)]; exact j3, hr.fl j4⟩⟩
      · have ew : W' ++ (-18 :: W) = (W' ++ [-18]) ++ W := by simp
        have eo : o + 1 + ngs W' = o + ngs (W' ++ [-18]) := by rw [ngs_one, if_pos (Or.inr rfl)]; omega
        rw [ew, eo] at g6
        rw [g5, nI_pred]
        refine ⟨_, _, rfl, pf_put pt (by omega) _, Or.inr ⟨by rw [putI_fld _ _ _ _ (by decide)]; exact g1, i', W' ++ [-18], c ++ [-18], C', by omega, g3, sub_ta g4 _, putI_self .., hr.tr g6, fun t ht => ?_, ?_, fun stk => ?_, ⟨fun z => by omega, fun z => by omega, fun z => by omega, fun z => by omega, fun z => by omega⟩⟩⟩
        · rcases List.mem_append.mp ht with z | z
          · exact g7 t z
          · rw [List.mem_singleton.mp z]; decide
        · rw [rev_one, rev_one, g8]
        · have := g9 stk
          rw [ofM_pf f5] at this
          rw [evc_app, this, evc_one]
          rfl
  rw [if_neg q14, if_pos rfl, show (40 : Int32) = nI 40 from rfl, s40, bn1_s]
  by_cases q10 : tk L n i = -10
  · have hlt : i < K := lt_K hi hT q10 (by decide) (by decide)
    rw [if_pos q10, if_neg (by decide)]
    rcases mopens hx ta hb h26 ho (by rw [q10]; decide) (by rw [q10]; decide) with ⟨h5, F, f1, f2, f3, f4⟩ | ⟨h5, F, f1, f2, f3, f4, f5⟩
    · rw [f1, bnd_s, if_pos rfl]
      have hst : ystep (tk L n) (i, true, W, o, C) = .inr (false, i, C) := by
        unfold ystep
        dsimp only
        rw [if_pos rfl, q10, if_neg (by decide), if_neg (fun z => by omega)]
      exact ⟨0, F, rfl, f4, Or.inl ⟨f2, i, Nat.le_refl _, hi, f3, rfl_1 hst⟩⟩
    · rw [f1, bnd_s, if_neg (by decide)]
      have hst : ystep (tk L n) (i, true, W, o, C) = .inl (i + 1, true, -10 :: W, o + 1, C) := by
        unfold ystep
        dsimp only
        rw [if_pos rfl, q10, if_neg (by decide), if_pos ⟨Or.inl rfl, h5⟩, if_neg (by decide)]
      have hr := rch_1 hst rfl
      obtain ⟨v, τ', s1, s2, s3⟩ := hE (o + 1) (i + 1) (-10 :: W) C F (by omega) (by omega) hlt (hx.pf f5) f2 f3 f4 ⟨by show rk (-10) < 1; decide, fun z => by omega⟩
      rw [s1, bnd_s]
      have pt := f5.tr s2
      rcases s3 with ⟨b1, j, j1, j2, j3, j4⟩ | ⟨g1, i', W', c, C', g2, g3, g4, g5, g6, g7, g8, g9, g10⟩
      · rw [sign_bad b1, bn1_s, if_pos rfl, fail_bad b1, bn1_s]
        unfold fX5_atom_b71
        rw [stp_e, if_neg (by rw [putI_fld _ _ _ _ (by decide)]; exact b1)]
        exact ⟨_, _, rfl, pf_put pt (by omega) _, Or.inl ⟨by rw [putI_fld _ _ _ _ (by decide)]; exact b1, j, by omega, j2, by rw [putI_fld _ _ _ _ (by decide)]; exact j3, hr.fl j4⟩⟩
      · have hg : lgo 1 (W' ++ (-10 :: W)) (o + 1 + ngs W') C' = (-10 :: W, o + 1, W'.reverse ++ C') := lgo_all (r := 1) W' (-10 :: W) (o + 1) C' g7 (Or.inr (by show rk (-10) < 1; decide))
        have s41 := isSg g4 g1 41 (by decide) (t := -11) rfl (by decide)
        rw [show (41 : Int32) = nI 41 from rfl, s41, bn1_s]
        by_cases q11 : tk L n i' = -11
        · have hlt' : i' < K := lt_K g3 hT q11 (by decide) (by decide)
          rw [if_pos q11, if_neg (by decide)]
          unfold fX5_atom_b71
          rw [stp_e, if_pos (by rw [putI_fld _ _ _ _ (by decide)]; exact g1), g5, nI_pred]
          have p2 : PF τ (putI τ' 0 26 (nI o)) := pf_put pt (by omega) _
          obtain ⟨F2, n1, n2, n3⟩ := mnext (hx.pf p2) (sub_ta g4 (nI o)) (by rw [q11]; decide) (by rw [q11]; decide)
          rw [n1, bn1_s]
          have hst2 : ystep (tk L n) (i', false, W' ++ (-10 :: W), o + 1 + ngs W', C') = .inl (i' + 1, false, W, o, W'.reverse ++ C') := by
            unfold ystep
            dsimp only
            rw [if_neg (by decide), if_neg (by rw [q11]; decide), if_pos q11, hg]
            rfl
          exact ⟨v, F2, rfl, p2.tr n3.pf, Or.inr ⟨by rw [n3.2.1 27 (by omega), putI_fld _ _ _ _ (by decide)]; exact g1, i' + 1, [], c, W'.reverse ++ C', by omega, hlt', n2, by rw [n3.2.1 26 (by omega), putI_self], hr.tr (g6.tr (rch_1 hst2 rfl)), fun t ht => absurd ht (List.not_mem_nil), g8, fun stk => by rw [← ofM_pf f5]; exact g9 stk, ⟨fun z => by omega, fun z => by omega, fun z => by omega, fun z => by omega, fun z => by omega⟩⟩⟩
        · rw [if_neg q11, if_pos rfl]
          obtain ⟨F2, e1, e2, e3, e4⟩ := fail_ok g1
          rw [e1, bn1_s]
          unfold fX5_atom_b71
          rw [stp_e, if_neg (by rw [putI_fld _ _ _ _ (by decide), e2]; decide)]
          obtain ⟨d1, d2, d3, d4, d5⟩ := g10
          have hst2 : ∃ C1, ystep (tk L n) (i', false, W' ++ (-10 :: W), o + 1 + ngs W', C') = .inr (false, i', C1) := by
            by_cases y12 : tk L n i' = -12
            · refine ⟨W'.reverse ++ C', ?_⟩
              unfold ystep
              dsimp only
              rw [if_neg (by decide), if_pos y12, hg, if_neg (by dsimp only; exact List.cons_ne_nil _ _)]
            by_cases y16 : tk L n i' = -16 ∨ tk L n i' = -17
            · exact d3 (by decide) y16
            refine ⟨C', ?_⟩
            unfold ystep
            dsimp only
            rw [if_neg (by decide), if_neg y12, if_neg q11]
            have jf : jn (tk L n i') = false := by
              unfold jn
              rw [beq_false_of_ne (d5 (by decide)), beq_false_of_ne (d4 (by decide)), beq_false_of_ne (d2 (by decide)).1, beq_false_of_ne (d2 (by decide)).2, beq_false_of_ne (d1 (by decide)), beq_false_of_ne (fun z => y16 (Or.inl z)), beq_false_of_ne (fun z => y16 (Or.inr z))]
              rfl
            rw [jf, if_neg (by decide)]
          obtain ⟨C1, hst2⟩ := hst2
          exact ⟨_, _, rfl, pf_put (pt.tr e4) (by omega) _, Or.inl ⟨by rw [putI_fld _ _ _ _ (by decide), e2]; decide, i', by omega, g3, by rw [putI_fld _ _ _ _ (by decide), e3]; exact g4.1, hr.fl (g6.fl (rfl_1 hst2))⟩⟩
  rw [if_neg q10, if_pos rfl, if_pos hb]
  have h8 : tk L n i = -8 → 4 ≤ lr W := hp.2 (by decide)
  have hn0 : ∀ t : Int32, t.toInt < 0 → ¬ (0 : Int32) ≤ t := fun t h z => by
    have := Int32.le_iff_toInt_le.mp z
    have e : (0 : Int32).toInt = 0 := rfl
    omega
  obtain ⟨h24, hle, hh⟩ := id ta
  rcases hh with ⟨e1, e2⟩ | ⟨e, e1, e2, e3, e4, e5, e6, e7⟩ | ⟨v, e1, e2, e3, e4, e5⟩ | ⟨l, e1, e2, e3, e4, e5, e6⟩ | ⟨e1, e2⟩
  · rw [if_neg (by rw [e2]; decide), b123_f hb (by rw [e2]; decide)]
    exact atom_fail hi ta hb (due_no (by rw [e1]; decide) q10 q14 h8)
  · rw [if_neg (by rw [e4]; decide), b123_w hb e4]
    rcases name_ok hx ta hb with ⟨j, hj, y1, y2⟩ | ⟨y1, y2⟩
    · rw [y2, bnd_s, if_pos hb]
      have h0 : (0 : Int32) ≤ tk L n i := by rw [y1]; exact nI_nn (by omega)
      refine atom_leaf (lt_K0 hi hT h0) hx ta h26 hb h0 (fun stk => ?_)
      unfold estep
      rw [if_pos h0, y1, if_neg (fun z => by
        have := Int32.lt_iff_toInt_lt.mp z
        rw [nI_toInt (by omega), show (10000 : Int32).toInt = 10000 from rfl] at this
        omega), nI_p10000 j hj]
    · have hz : ¬ (0 : Int32) ≤ tk L n i := by
        rw [e7]
        unfold wcode
        cases hf2 : fs (isW L (ts L n i) e) 12 with
        | none => exact (by decide : ¬ (0 : Int32) ≤ -2)
        | some w =>
          have ew : tk L n i = wcd w := by rw [e7]; unfold wcode; rw [hf2]
          dsimp only
          rcases wcd_rng w (fs_lt12 hf2) with h | h | h | h | h | h | ⟨j, hj, h⟩
          · rw [h]; decide
          · rw [h]; decide
          · rw [h]; decide
          · rw [h]; decide
          · rw [h]; decide
          · rw [h]; decide
          · exact absurd (ew.trans h) (y1 j hj)
      have hfl := atom_fail (o := o) (W := W) (C := C) hi ta hb (due_no hz q10 q14 h8)
      rw [y2]
      obtain ⟨F, f1, f2, f3, f4⟩ := fail_ok hb
      rw [f1, bn1_s] at hfl ⊢
      rw [bnd_s, if_neg (by rw [f2]; decide)]
      exact hfl
  · rw [if_pos e3]
    have h0 : (0 : Int32) ≤ tk L n i := by rw [e2]; exact nI_nn (by omega)
    rw [e4, lN_i]
    refine atom_leaf (lt_K0 hi hT h0) hx ta h26 hb h0 (fun stk => ?_)
    unfold estep
    rw [if_pos h0, e2, if_pos (Int32.lt_iff_toInt_lt.mpr (by rw [nI_toInt (by omega)]; show (v : Int) < 10000; omega))]
  · rw [if_neg (by rw [e4]; decide), b123_f hb (by rw [e4]; decide)]
    exact atom_fail hi ta hb (due_no (by rw [e2]; exact hn0 _ (sg_neg e1 e3).2.1) q10 q14 h8)
  · rw [if_neg (by rw [e2]; decide), b123_f hb (by rw [e2]; decide)]
    exact atom_fail hi ta hb (due_no (by rw [e1]; decide) q10 q14 h8)
theorem clm_all (hK : K ≤ 160) (hT : tk L n K = -1 ∨ tk L n K = -2) : ∀ fuel w, w ≤ 5 → Clm L n K ρ fuel w
  | 0, w, _ => fun o i W C τ hf => by omega
  | fuel + 1, w, hw => by
    have ih := clm_all hK hT fuel
    rcases (show w = 0 ∨ w = 1 ∨ w = 2 ∨ w = 3 ∨ w = 4 ∨ w = 5 by omega) with rfl | rfl | rfl | rfl | rfl | rfl
    · exact clm_atom (ih 0 (by decide)) (ih 5 (by decide)) hT
    · exact clm_term (ih 0 (by decide)) hK hT
    · exact clm_added (ih 1 (by decide)) hK hT
    · exact clm_not (ih 2 (by decide)) (ih 3 (by decide)) hK hT
    · exact clm_both (ih 3 (by decide)) hK hT
    · exact clm_either (ih 4 (by decide)) hK hT
end ATOM
