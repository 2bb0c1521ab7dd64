/-! ===== the model reads a text ===== -/
def YQ : YO → Prop
  | .inl (_, _, W, _, C) => (∀ t, t ∈ W → VW t) ∧ ∀ x, x ∈ C → gc x
  | .inr (_, _, C) => ∀ x, x ∈ C → gc x
theorem lgo_gc {r : Nat} (hr : 1 ≤ r) : ∀ (W : List Int32) (o : Nat) (C : List Int32), (∀ t, t ∈ W → VW t) → (∀ x, x ∈ C → gc x) → (∀ t, t ∈ (lgo r W o C).1 → VW t) ∧ ∀ x, x ∈ (lgo r W o C).2.2 → gc x
  | [], o, C, h, g => ⟨h, g⟩
  | t :: W, o, C, h, g => by
    unfold lgo
    by_cases q : r ≤ rk t
    · rw [if_pos q]
      refine lgo_gc hr W _ (t :: C) (fun x hx => h x (List.mem_cons_of_mem _ hx)) (fun x hx => ?_)
      rcases List.mem_cons.mp hx with z | z
      · rw [z]
        exact Or.inr ⟨h t (List.mem_cons_self ..), fun z => by rw [z, show rk (-10) = 0 from rfl] at q; omega⟩
      · exact g x z
    · rw [if_neg q]
      exact ⟨h, g⟩
theorem tok_gc {t : Int32} (h : isTok t) (h0 : (0 : Int32) ≤ t) : gc t := by
  rcases h with rfl | rfl | rfl | rfl | rfl | rfl | rfl | rfl | rfl | rfl | rfl | rfl | rfl | rfl | rfl | rfl | h
  all_goals first | exact Or.inl h | exact absurd h0 (by decide)
theorem ystep_gc {T : Nat → Int32} (hT : ∀ i, isTok (T i)) (i : Nat) (due : Bool) (W : List Int32) (o : Nat) (C : List Int32) (hW : ∀ t, t ∈ W → VW t) (hC : ∀ x, x ∈ C → gc x) : YQ (ystep T (i, due, W, o, C)) := by
  have cons : ∀ (t : Int32) (W : List Int32), VW t → (∀ t, t ∈ W → VW t) → ∀ x, x ∈ t :: W → VW x := fun t W h1 h2 x hx => by
    rcases List.mem_cons.mp hx with z | z
    · rw [z]; exact h1
    · exact h2 x z
  unfold ystep
  dsimp only
  cases due with
  | true =>
    rw [if_pos rfl]
    by_cases h0 : 0 ≤ T i
    · rw [if_pos h0]
      refine ⟨hW, fun x hx => ?_⟩
      rcases List.mem_cons.mp hx with z | z
      · rw [z]; exact tok_gc (hT i) h0
      · exact hC x z
    · rw [if_neg h0]
      by_cases q : (T i = -10 ∨ T i = -14 ∨ (T i = -8 ∧ lr W ≤ 3)) ∧ o < 5
      · rw [if_pos q]
        refine ⟨cons _ _ ?_ hW, hC⟩
        unfold VW
        rcases q.1 with z | z | z
        · rw [if_neg (by rw [z]; decide), z]; simp
        · rw [if_pos z]; simp
        · rw [if_neg (by rw [z.1]; decide), z.1]; simp
      · rw [if_neg q]
        exact hC
  | false =>
    rw [if_neg (by decide)]
    obtain ⟨a1, a2⟩ := lgo_gc (r := 1) (Nat.le_refl _) W o C hW hC
    by_cases q12 : T i = -12
    · rw [if_pos q12]
      by_cases z : (lgo 1 W o C).1 = []
      · rw [if_pos z]; exact a2
      · rw [if_neg z]; exact a2
    rw [if_neg q12]
    by_cases q11 : T i = -11
    · rw [if_pos q11]
      cases hw : (lgo 1 W o C).1 with
      | nil => exact a2
      | cons t W1 => exact ⟨fun x hx => a1 x (by rw [hw]; exact List.mem_cons_of_mem _ hx), a2⟩
    rw [if_neg q11]
    by_cases qj : jn (T i) = true
    · rw [if_pos qj]
      have vj := (jn_vw qj).1
      have v1 := (jn_vw qj).2.1
      by_cases q4 : rk (T i) = 4
      · rw [if_pos q4]
        obtain ⟨b1, b2⟩ := lgo_gc (r := 5) (by decide) W o C hW hC
        by_cases z : lr (lgo 5 W o C).1 = 4
        · rw [if_pos z]; exact b2
        · rw [if_neg z]; exact ⟨cons _ _ vj b1, b2⟩
      · rw [if_neg q4]
        obtain ⟨b1, b2⟩ := lgo_gc v1 W o C hW hC
        exact ⟨cons _ _ vj b1, b2⟩
    · rw [if_neg qj]
      exact hC
theorem yrun_gc {T : Nat → Int32} (hT : ∀ i, isTok (T i)) : ∀ (f i : Nat) (due : Bool) (W : List Int32) (o : Nat) (C : List Int32), (∀ t, t ∈ W → VW t) → (∀ x, x ∈ C → gc x) → ∀ r, yrun T f (i, due, W, o, C) = some r → ∀ x, x ∈ r.2.2 → gc x
  | 0, _, _, _, _, _, _, _, r, h => by cases h
  | f + 1, i, due, W, o, C, hW, hC, r, h => by
    rw [yrun_S] at h
    have q := ystep_gc hT i due W o C hW hC
    cases e : ystep T (i, due, W, o, C) with
    | inl s' =>
      obtain ⟨i', d', W', o', C'⟩ := s'
      rw [e] at q h
      exact yrun_gc hT f i' d' W' o' C' q.1 q.2 r h
    | inr r' =>
      obtain ⟨ok, j, C'⟩ := r'
      rw [e] at q h
      cases h
      exact q
theorem rds_gc {T : Nat → Int32} (hT : ∀ i, isTok (T i)) (K : Nat) : ∀ p x, x ∈ (rds T K p).2.2 → gc x
  | 0, x, h => absurd h (List.not_mem_nil)
  | p + 1, x, h => by
    have ih := rds_gc hT K p
    unfold rds at h
    by_cases q : (rds T K p).1 = true
    · rw [if_pos q] at h
      unfold rd1 at h
      by_cases q2 : T (rds T K p).2.1 = -3 - nI p
      · rw [if_pos q2] at h
        cases e : yrun T (K + 1) ((rds T K p).2.1 + 1, true, [], 0, (rds T K p).2.2) with
        | none => rw [e] at h; exact absurd h (List.not_mem_nil)
        | some r =>
          rw [e] at h
          exact yrun_gc hT (K + 1) _ true [] 0 _ (fun t ht => absurd ht (List.not_mem_nil)) ih r e x h
      · rw [if_neg q2] at h
        exact ih x h
    · rw [if_neg q] at h
      exact ih x h
section MREAD
variable {L : Nat → Nat} {n K ρ : Nat}
theorem rfl_rd1 {i p j : Nat} {C : List Int32} (h : tk L n i = -3 - nI p) (hj : j ≤ K) (hf : Rfl (tk L n) (i + 1, true, [], 0, C) j) : ∃ C1, rd1 (tk L n) K p i C = (false, j, C1) := by
  obtain ⟨k, C1, e, hk⟩ := hf
  have e : i + 1 + k = j := e
  refine ⟨C1, ?_⟩
  unfold rd1
  have := hk (K - k)
  rw [show K - k + k + 1 = K + 1 by omega] at this
  rw [if_pos h, this]
  rfl
theorem b34_bad {τ : Mem} (a v : Int32) (hb : ¬ τ.1 0 27 = 0) : fX5_part_b34 a τ v = some (v, τ) := by
  unfold fX5_part_b34
  rw [sign_bad hb, bn1_s, if_pos rfl, fail_bad hb, bn1_s, if_neg hb]
theorem mpart_ok {τ : Mem} (hK : K ≤ 160) (hT : tk L n K = -1 ∨ tk L n K = -2) {p i : Nat} (hp : p < 3) (hi : i ≤ K) (C : List Int32) (hx : TX τ ρ L n) (ta : TA τ L n i) (hb : τ.1 0 27 = 0) (h26 : τ.1 0 26 = nI 0) : ∃ v F, fX5_part (if tk L n i = -3 - nI p then 1 else 0) τ = some (v, F) ∧ PF τ F ∧ (((rd1 (tk L n) K p i C).1 = false ∧ ¬ F.1 0 27 = 0 ∧ F.1 0 28 = nI (ts L n (rd1 (tk L n) K p i C).2.1)) ∨ ((rd1 (tk L n) K p i C).1 = true ∧ F.1 0 27 = 0 ∧ F.1 0 26 = nI 0 ∧ TA F L n (rd1 (tk L n) K p i C).2.1 ∧ (rd1 (tk L n) K p i C).2.1 ≤ K ∧ ∃ c, (rd1 (tk L n) K p i C).2.2 = c.reverse ++ C ∧ ∀ stk, evc (ofM τ) c stk = v :: stk)) := by
  unfold fX5_part
  by_cases q : tk L n i = -3 - nI p
  · have hlt : i < K := lt_K hi hT q (wcd_123 p hp).1 (wcd_123 p hp).2
    obtain ⟨F1, n1, n2, n3⟩ := mnext hx ta (by rw [q]; exact (wcd_123 p hp).1) (by rw [q]; exact (wcd_123 p hp).2)
    have b27 : F1.1 0 27 = 0 := by rw [n3.2.1 27 (by omega)]; exact hb
    rw [if_pos q, if_neg (by decide)]
    unfold fX5_part_b8
    rw [if_pos hb, n1, bn1_s]
    unfold fX5_part_b19
    rw [if_pos b27]
    obtain ⟨v, F2, s1, s2, s3⟩ := clm_all (ρ := ρ) hK hT 64 5 (by decide) 0 (i + 1) [] C F1 (by decide) (by decide) hlt (hx.pf n3.pf) n2 b27 (by rw [n3.2.1 26 (by omega)]; exact h26) ⟨by show 0 < 1; decide, fun z => by omega⟩
    rw [s1, bnd_s]
    have pf2 : PF τ F2 := n3.pf.tr s2
    rcases s3 with ⟨b1, j, j1, j2, j3, j4⟩ | ⟨g1, i', W', c, C', g2, g3, g4, g5, g6, g7, g8, g9, g10⟩
    · obtain ⟨C1, hr⟩ := rfl_rd1 q j2 j4
      rw [b34_bad _ _ b1, hr]
      exact ⟨v, F2, rfl, pf2, Or.inl ⟨rfl, b1, j3⟩⟩
    · have ew : W' ++ [] = W' := List.append_nil W'
      have eo : 0 + ngs W' = ngs W' := Nat.zero_add _
      have hg : lgo 1 (W' ++ []) (0 + ngs W') C' = ([], 0, W'.reverse ++ C') := lgo_all (r := 1) W' [] 0 C' g7 (Or.inl rfl)
      have s59 := isSg g4 g1 59 (by decide) (t := -12) rfl (by decide)
      unfold fX5_part_b34
      rw [show (59 : Int32) = nI 59 from rfl, s59, bn1_s]
      by_cases q12 : tk L n i' = -12
      · have hlt' : i' < K := lt_K g3 hT q12 (by decide) (by decide)
        obtain ⟨F3, m1, m2, m3⟩ := mnext (hx.pf pf2) g4 (by rw [q12]; decide) (by rw [q12]; decide)
        rw [if_pos q12, if_neg (by decide), if_pos g1, m1, bn1_s]
        have hst : ystep (tk L n) (i', false, W' ++ [], 0 + ngs W', C') = .inr (true, i' + 1, W'.reverse ++ C') := by
          unfold ystep
          dsimp only
          rw [if_neg (by decide), if_pos q12, hg, if_pos rfl]
        have hr : rd1 (tk L n) K p i C = (true, i' + 1, W'.reverse ++ C') := by
          obtain ⟨k, e, hk⟩ := g6
          have e : i + 1 + k = i' := e
          unfold rd1
          have := hk (K - k + 1)
          have e2 := yrun_S (tk L n) (K - k) (i', false, W' ++ [], 0 + ngs W', C')
          rw [hst] at e2
          rw [show K - k + 1 + k = K + 1 by omega, e2] at this
          rw [if_pos q, this]
          rfl
        rw [hr]
        exact ⟨v, F3, rfl, pf2.tr m3.pf, Or.inr ⟨rfl, by rw [m3.2.1 27 (by omega)]; exact g1, by rw [m3.2.1 26 (by omega)]; exact g5, m2, hlt', c, g8, fun stk => by rw [← ofM_pf n3.pf]; exact g9 stk⟩⟩
      · obtain ⟨F3, e1, e2, e3, e4⟩ := fail_ok g1
        rw [if_neg q12, if_pos rfl, e1, bn1_s, if_neg (by rw [e2]; decide)]
        obtain ⟨d1, d2, d3, d4, d5⟩ := g10
        have hst2 : ∃ C1, ystep (tk L n) (i', false, W' ++ [], 0 + ngs W', C') = .inr (false, i', C1) := by
          by_cases y16 : tk L n i' = -16 ∨ tk L n i' = -17
          · exact d3 (by decide) y16
          by_cases q11 : tk L n i' = -11
          · refine ⟨W'.reverse ++ C', ?_⟩
            unfold ystep
            dsimp only
            rw [if_neg (by decide), if_neg q12, if_pos q11, hg]
          refine ⟨C', ?_⟩
          unfold ystep
          dsimp only
          rw [if_neg (by decide), if_neg q12, if_neg q11]
          have jf : jn (tk L n i') = false := by
            unfold jn
            rw [beq_false_of_ne (d5 (by decide)), beq_false_of_ne (d4 (by decide)), beq_false_of_ne (d2 (by decide)).1, beq_false_of_ne (d2 (by decide)).2, beq_false_of_ne (d1 (by decide)), beq_false_of_ne (fun z => y16 (Or.inl z)), beq_false_of_ne (fun z => y16 (Or.inr z))]
            rfl
          rw [jf, if_neg (by decide)]
        obtain ⟨C1, hst2⟩ := hst2
        obtain ⟨C2, hr⟩ := rfl_rd1 q g3 (g6.fl (rfl_1 hst2))
        rw [hr]
        exact ⟨v, F3, rfl, pf2.tr e4, Or.inl ⟨rfl, by rw [e2]; decide, by rw [e3]; exact g4.1⟩⟩
  · obtain ⟨F1, f1, f2, f3, f4⟩ := fail_ok hb
    have nb : ¬ F1.1 0 27 = 0 := by rw [f2]; decide
    rw [if_neg q, if_pos rfl, f1, bn1_s]
    unfold fX5_part_b8
    rw [if_neg nb]
    unfold fX5_part_b19
    rw [if_neg nb, b34_bad _ _ nb]
    have hr : rd1 (tk L n) K p i C = (false, i, C) := by
      unfold rd1
      rw [if_neg q]
    rw [hr]
    exact ⟨0, F1, rfl, f4, Or.inl ⟨rfl, nb, by rw [f3]; exact ta.1⟩⟩
theorem part_bad {τ : Mem} (a : Int32) (hb : ¬ τ.1 0 27 = 0) : fX5_part a τ = some (0, τ) := by
  have e : fX5_part_b8 a τ = some (0, τ) := by
    unfold fX5_part_b8
    rw [if_neg hb]
    unfold fX5_part_b19
    rw [if_neg hb, b34_bad _ _ hb]
  unfold fX5_part
  by_cases q : a = 0
  · rw [if_pos q, fail_bad hb, bn1_s, e]
  · rw [if_neg q, e]
end MREAD
