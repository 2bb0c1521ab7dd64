/-! ===== the class's yard runs as the abstract one ===== -/
def YV (σ : Mem) (b : Nat) (L : Nat → Nat) (n K i : Nat) (W : List Int32) (o : Nat) (C : List Int32) : Prop := TOK σ L n K ∧ σ.1 3 6 = nI i ∧ i ≤ K ∧ YR σ b W o C ∧ YI W o ∧ W.length + C.length < i
theorem lgo_lr (r : Nat) : ∀ (W : List Int32) (o : Nat) (C : List Int32), (lgo r W o C).1 = [] ∨ lr (lgo r W o C).1 < r
  | [], o, C => Or.inl rfl
  | t :: W, o, C => by
    unfold lgo
    by_cases q : r ≤ rk t
    · rw [if_pos q]
      exact lgo_lr r W _ _
    · rw [if_neg q]
      exact Or.inr (Nat.lt_of_not_le q)
theorem vw_10 {t : Int32} (h : VW t) (h1 : rk t < 1) : t = -10 := by
  rcases h with rfl | rfl | rfl | rfl | rfl | rfl | rfl | rfl | rfl | rfl
  all_goals first | rfl | exact absurd h1 (by decide)
theorem L32_eq (a1 : Int32) (b : Nat) (ih : Mem × Int32 → Option (Int32 × Mem)) (σ : Mem) (y : Int32) : fX1_readPart_L32 a1 b ih (σ, y) = if (σ.1 3 5) ≤ (σ.1 3 6) then some (0, σ) else gd (inB (σ.1 3 6) 161) (if y = 0 then fX1_readPart_b74 a1 b ih σ y (rd σ 5 (σ.1 3 6)) else if (rd σ 5 (σ.1 3 6)) < 0 then fX1_readPart_b74 a1 b ih σ y (rd σ 5 (σ.1 3 6)) else bn1 (fX3_add b (rd σ 5 (σ.1 3 6)) σ) fun σ18 => stp (putI σ18 3 6 ((σ18.1 3 6) + 1)) fun τ => ih (τ, 0)) := rfl
theorem b74_0 (a1 : Int32) (b : Nat) (ih : Mem × Int32 → Option (Int32 × Mem)) (σ : Mem) (t : Int32) : fX1_readPart_b74 a1 b ih σ 0 t = if t = -12 then (bnd (fX1_ends b σ) fun r σ2 => gd (isB r) (some (r, σ2))) else if t = -11 then (bnd (fX1_closes b σ) fun r σ2 => if r = 0 then some (0, σ2) else stp (putI σ2 3 6 ((σ2.1 3 6) + 1)) fun τ => ih (τ, 0)) else bnd (fX1_joins t b σ) fun r σ2 => if r = 0 then some (0, σ2) else stp (putI σ2 3 6 ((σ2.1 3 6) + 1)) fun τ => ih (τ, 1) := rfl
theorem b74_1 (a1 : Int32) (b : Nat) (ih : Mem × Int32 → Option (Int32 × Mem)) (σ : Mem) (t : Int32) : fX1_readPart_b74 a1 b ih σ 1 t = bnd (fX1_opens t σ) fun r σ2 => if r = 0 then some (0, σ2) else stp (putI σ2 3 6 ((σ2.1 3 6) + 1)) fun τ => ih (τ, 1) := rfl
section RUN
variable {b : Nat} {σ : Mem} {L : Nat → Nat} {n K i o : Nat} {W C : List Int32}
theorem TOK.yf {F : Mem} (hb : 8 ≤ b) (h : TOK σ L n K) (q : YF b σ F) : TOK F L n K := ⟨h.1, by rw [q.2.1 5 (by omega)]; exact h.2.1, fun k hk => by rw [q.1 5 (by decide) (by decide) (by omega) (by omega), q.1 6 (by decide) (by decide) (by omega) (by omega)]; exact h.2.2.1 k hk, h.2.2.2⟩
theorem adv (hb : 8 ≤ b) (ht : TOK σ L n K) (hi : i < K) {F : Mem} (yf : YF b σ F) {W' C' : List Int32} {o' : Nat} (hy : YR F b W' o' C') (hyi : YI W' o') (hl : W'.length + C'.length < i + 1) : YV (putI F 3 6 (nI (i + 1))) b L n K (i + 1) W' o' C' ∧ YF b σ (putI F 3 6 (nI (i + 1))) := by
  have y2 : YF b σ (putI F 3 6 (nI (i + 1))) := yf.tr (yf_3 hb (by omega) _)
  exact ⟨⟨ht.yf hb y2, putI_self .., hi, ⟨by rw [putI_fld _ _ _ _ (by decide)]; exact hy.1, by rw [putI_fld _ _ _ _ (by decide)]; exact hy.2.1, by rw [putI_row _ _ _ _ (by decide)]; exact hy.2.2.1, by rw [putI_row _ _ _ _ (by omega)]; exact hy.2.2.2.1, by rw [putI_row _ _ _ _ (by omega)]; exact hy.2.2.2.2⟩, hyi, hl⟩, y2⟩
theorem yard_step (hb : 8 ≤ b) (hn : n ≤ 160) (hv : YV σ b L n K i W o C) {p : Nat} (hp : p < 3) (h4 : σ.1 b 4 = nI p) (due : Bool) (a1 : Int32) (ih : Mem × Int32 → Option (Int32 × Mem)) :
    (∃ due' W' o' C', ystep (tk L n) (i, due, W, o, C) = .inl (i + 1, due', W', o', C') ∧ i < K ∧ ∃ F, fX1_readPart_L32 a1 b ih (σ, cond due 1 0) = ih (F, cond due' 1 0) ∧ YV F b L n K (i + 1) W' o' C' ∧ YF b σ F)
    ∨ (∃ C', ystep (tk L n) (i, due, W, o, C) = .inr (false, i, C') ∧ ∃ F, fX1_readPart_L32 a1 b ih (σ, cond due 1 0) = some (0, F) ∧ F.1 3 6 = nI i ∧ YF b σ F)
    ∨ (∃ C', ystep (tk L n) (i, due, W, o, C) = .inr (true, i + 1, C') ∧ i < K ∧ ∃ F, fX1_readPart_L32 a1 b ih (σ, cond due 1 0) = some (1, putI (putI (putI F (b + 2) p (nI C'.length)) b 4 (nI (p + 1))) 3 6 (nI (i + 1))) ∧ YF b σ F ∧ C'.length ≤ i ∧ F.1 b 3 = nI C'.length ∧ SKR (F.1 (b + 1)) C') := by
  obtain ⟨ht, h6, hi, hyr, hyi, hl⟩ := hv
  have hKn := ht.1
  have hT := ht.2.2.2.2
  have hg : ¬ nI (K + 1) ≤ nI i := nI_ge (by omega) (by omega)
  rw [L32_eq, ht.2.1, h6, if_neg hg, gd_of (inB_nI (by omega) (by decide)), rd_nI (by omega), (ht.2.2.1 i hi).1]
  have htok := tk_tok L n i
  cases due with
  | false =>
    rw [show (cond false (1 : Int32) 0) = 0 from rfl]
    rw [if_pos rfl, b74_0]
    by_cases q12 : tk L n i = -12
    · have hlt : i < K := lt_K hi hT q12 (by decide) (by decide)
      obtain ⟨F, f1, f2, f3, f4⟩ := letGo_ok (r := 1) hb (by decide) (by decide) hyr hyi (by omega)
      have f6 : F.1 3 6 = nI i := f4.trans h6
      have hst : ystep (tk L n) (i, false, W, o, C) = if (lgo 1 W o C).1 = [] then .inr (true, i + 1, (lgo 1 W o C).2.2) else .inr (false, i, (lgo 1 W o C).2.2) := by
        unfold ystep
        dsimp only
        rw [if_neg (by decide), if_pos q12]
      obtain ⟨y1, y2⟩ := lgo_yi (r := 1) (by decide) W o C hyi
      rw [if_pos q12, ends_eq, f1, bn1_s, f2.1, hst]
      cases hW : (lgo 1 W o C).1 with
      | nil =>
        right; right
        rw [hW] at y2
        have c4 : F.1 b 4 = nI p := by rw [f3.2.2.1 4 (by decide)]; exact h4
        rw [if_pos rfl, if_pos (show nI ([] : List Int32).length ≤ 0 by decide), endPart_ok hp c4 f2.2.2.2.1, bn1_s, stp_e, bnd_s]
        refine ⟨_, rfl, hlt, F, ?_, f3, by simp only [List.length_nil] at y2; omega, f2.2.2.2.1, f2.2.2.2.2⟩
        rw [putI_row _ _ _ _ (show (3 : Nat) ≠ b by omega), putI_row _ _ _ _ (show (3 : Nat) ≠ b + 2 by omega), f6, nI_1]
        rfl
      | cons t W1 =>
        right; left
        rw [hW] at y2
        simp only [List.length_cons] at y2
        rw [if_neg (List.cons_ne_nil _ _), List.length_cons, if_neg (nS0 (by omega)), bnd_s]
        exact ⟨_, rfl, F, rfl, f6, f3⟩
    rw [if_neg q12]
    by_cases q11 : tk L n i = -11
    · have hlt : i < K := lt_K hi hT q11 (by decide) (by decide)
      obtain ⟨F, f1, f2, f3, f4⟩ := letGo_ok (r := 1) hb (by decide) (by decide) hyr hyi (by omega)
      have f6 : F.1 3 6 = nI i := f4.trans h6
      have hst : ystep (tk L n) (i, false, W, o, C) = match (lgo 1 W o C).1 with
        | [] => .inr (false, i, (lgo 1 W o C).2.2)
        | _ :: W' => .inl (i + 1, false, W', (lgo 1 W o C).2.1 - 1, (lgo 1 W o C).2.2) := by
        unfold ystep
        dsimp only
        rw [if_neg (by decide), if_neg q12, if_pos q11]
        cases (lgo 1 W o C).1 <;> rfl
      obtain ⟨y1, y2⟩ := lgo_yi (r := 1) (by decide) W o C hyi
      have hlr := lgo_lr 1 W o C
      rw [if_pos q11, closes_eq, f1, bn1_s, f2.1, hst]
      cases hW : (lgo 1 W o C).1 with
      | nil =>
        right; left
        rw [if_neg (show ¬ (0 : Int32) < nI ([] : List Int32).length by decide), bnd_s, if_pos rfl]
        exact ⟨_, rfl, F, rfl, f6, f3⟩
      | cons t W1 =>
        left
        rw [hW] at y1 y2 hlr f2
        simp only [List.length_cons] at y2
        have t10 : t = -10 := vw_10 (y1.2 t (List.mem_cons_self ..)) (hlr.elim (fun z => absurd z (List.cons_ne_nil _ _)) id)
        have hop : nop W1 + 1 = (lgo 1 W o C).2.1 := by
          have := y1.1
          unfold nop at this
          rw [if_pos (Or.inr (Or.inr t10))] at this
          exact this
        have e8 : (putI F 3 7 (nI W1.length)).1 3 8 = nI ((lgo 1 W o C).2.1 - 1 + 1) := by
          rw [putI_fld _ _ _ _ (by decide), f2.2.1, Nat.sub_add_cancel (by omega)]
        rw [List.length_cons, if_pos (show (0 : Int32) < nI (W1.length + 1) from nI_lt (a := 0) (by omega) (by omega)), stp_e, nI_pred, stp_e, e8, nI_pred, bnd_s, if_neg (by decide), stp_e]
        have y7 : YF b F (putI (putI F 3 7 (nI W1.length)) 3 8 (nI ((lgo 1 W o C).2.1 - 1))) := (yf_3 hb (by omega) _).tr (yf_3 hb (by omega) _)
        have yr : YR (putI (putI F 3 7 (nI W1.length)) 3 8 (nI ((lgo 1 W o C).2.1 - 1))) b W1 ((lgo 1 W o C).2.1 - 1) (lgo 1 W o C).2.2 := ⟨by rw [putI_fld _ _ _ _ (by decide), putI_self], putI_self .., by rw [putI_row _ _ _ _ (by decide), putI_row _ _ _ _ (by decide)]; exact f2.2.2.1.2, by rw [putI_row _ _ _ _ (by omega), putI_row _ _ _ _ (by omega)]; exact f2.2.2.2.1, by rw [putI_row _ _ _ _ (by omega), putI_row _ _ _ _ (by omega)]; exact f2.2.2.2.2⟩
        obtain ⟨a1', a2'⟩ := adv hb ht hlt (f3.tr y7) yr ⟨by omega, fun x hx => y1.2 x (List.mem_cons_of_mem _ hx)⟩ (by omega)
        refine ⟨false, W1, (lgo 1 W o C).2.1 - 1, (lgo 1 W o C).2.2, rfl, hlt, _, ?_, a1', a2'⟩
        rw [putI_fld _ _ _ _ (show 6 ≠ 8 by decide), putI_fld _ _ _ _ (show 6 ≠ 7 by decide), f6, nI_1]
        rfl
    rw [if_neg q11]
    by_cases qj : jn (tk L n i) = true
    · obtain ⟨v1, v2, v3, v4, v5, v6⟩ := jn_vw qj
      have hlt : i < K := by
        rcases Nat.lt_or_ge i K with z | z
        · exact z
        · exfalso
          have e : i = K := by omega
          rw [e] at qj
          rcases hT with y | y <;> rw [y] at qj <;> exact absurd qj (by decide)
      obtain ⟨r, F, hr, f1, f2, f3⟩ := joins_ok hb hyr hyi (by omega) qj
      have r1 : 1 ≤ r := by rw [hr]; split <;> omega
      obtain ⟨y1, y2⟩ := lgo_yi r1 W o C hyi
      rcases f3 with ⟨g1, g2, g3⟩ | ⟨g1, g2, g3⟩
      · right; left
        rw [g3, bnd_s, if_pos rfl]
        rw [if_pos g1] at hr
        subst hr
        refine ⟨(lgo 5 W o C).2.2, ?_, F, rfl, f2.trans h6, f1⟩
        unfold ystep
        dsimp only
        rw [if_neg (by decide), if_neg q12, if_neg q11, if_pos qj, if_pos g1, if_pos g2]
      · left
        rw [g2, bnd_s, if_neg (by decide), stp_e, f2, h6, nI_1]
        have yi : YI (tk L n i :: (lgo r W o C).1) (lgo r W o C).2.1 := ⟨by
          unfold nop
          rw [if_neg (fun z => by
            rcases z with z | z | z
            · exact v5 z
            · exact v6 z
            · exact v4 z)]
          exact y1.1, fun x hx => by
          rcases List.mem_cons.mp hx with z | z
          · rw [z]; exact v1
          · exact y1.2 x z⟩
        obtain ⟨a1', a2'⟩ := adv hb ht hlt f1 g3 yi (by simp only [List.length_cons]; omega)
        refine ⟨true, _, _, _, ?_, hlt, _, rfl, a1', a2'⟩
        unfold ystep
        dsimp only
        rw [if_neg (by decide), if_neg q12, if_neg q11, if_pos qj]
        by_cases q4 : rk (tk L n i) = 4
        · rw [if_pos q4] at hr
          subst hr
          rw [if_pos q4, if_neg (fun z => g1 ⟨q4, z⟩)]
        · rw [if_neg q4] at hr
          subst hr
          rw [if_neg q4]
    · right; left
      rw [joins_no qj (tok_18 htok), bnd_s, if_pos rfl]
      refine ⟨C, ?_, σ, rfl, h6, YF.rf⟩
      unfold ystep
      dsimp only
      rw [if_neg (by decide), if_neg q12, if_neg q11, if_neg qj]
  | true =>
    rw [show (cond true (1 : Int32) 0) = 1 from rfl]
    rw [if_neg (by decide), b74_1]
    by_cases h0 : (0 : Int32) ≤ tk L n i
    · left
      have hlt : i < K := lt_K0 hi hT h0
      obtain ⟨F, f1, f2, f3, f4⟩ := add_ok hb hyr (by omega) (tk L n i)
      rw [if_neg (fun z => by
        have := Int32.lt_iff_toInt_lt.mp z
        have := Int32.le_iff_toInt_le.mp h0
        omega), f1, bn1_s, stp_e, f4, h6, nI_1]
      obtain ⟨a1', a2'⟩ := adv hb ht hlt f3 f2 hyi (by simp only [List.length_cons]; omega)
      exact ⟨false, _, _, _, due_num h0, hlt, _, rfl, a1', a2'⟩
    · rw [if_pos (Int32.lt_iff_toInt_lt.mpr (by
        have : ¬ (0 : Int32).toInt ≤ (tk L n i).toInt := fun y => h0 (Int32.le_iff_toInt_le.mpr y)
        omega))]
      rcases opens_ok hb hyr hyi (by omega) (tk L n i) with ⟨g1, F, f1, f2, f3, f4⟩ | ⟨g1, g2⟩
      · left
        have hlt : i < K := by
          rcases g1.1 with z | z | z
          · exact lt_K hi hT z (by decide) (by decide)
          · exact lt_K hi hT z (by decide) (by decide)
          · exact lt_K hi hT z.1 (by decide) (by decide)
        rw [f1, bnd_s, if_neg (by decide), stp_e, f4, h6, nI_1]
        have yi : YI ((if tk L n i = -14 then -18 else tk L n i) :: W) (o + 1) := ⟨by
          unfold nop
          rw [hyi.1, if_pos (by
            rcases g1.1 with z | z | z
            · rw [if_neg (by rw [z]; decide)]; exact Or.inr (Or.inr z)
            · rw [if_pos z]; exact Or.inr (Or.inl rfl)
            · rw [if_neg (by rw [z.1]; decide)]; exact Or.inl z.1)], fun x hx => by
          rcases List.mem_cons.mp hx with z | z
          · rw [z]
            unfold VW
            rcases g1.1 with z | z | z
            · rw [if_neg (by rw [z]; decide), z]; simp
            · rw [if_pos z]; simp
            · rw [if_neg (by rw [z.1]; decide), z.1]; simp
          · exact hyi.2 x z⟩
        obtain ⟨a1', a2'⟩ := adv hb ht hlt f3 f2 yi (by simp only [List.length_cons]; omega)
        refine ⟨true, _, _, _, ?_, hlt, _, rfl, a1', a2'⟩
        unfold ystep
        dsimp only
        rw [if_pos rfl, if_neg h0, if_pos g1]
      · right; left
        rw [g2, bnd_s, if_pos rfl]
        refine ⟨C, ?_, σ, rfl, h6, YF.rf⟩
        unfold ystep
        dsimp only
        rw [if_pos rfl, if_neg h0, if_neg g1]
end RUN
