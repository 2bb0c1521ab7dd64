/-! ===== text() ===== -/
theorem ts_le (L : Nat → Nat) (n k : Nat) : ts L n k ≤ n := by
  unfold ts tok
  dsimp only
  by_cases h : ruN blk L n (tkp L n k) < n
  · rw [if_pos h]
    by_cases h1 : sml (L (ruN blk L n (tkp L n k))) = true
    · rw [if_pos h1]; exact Nat.le_of_lt h
    · rw [if_neg h1]
      by_cases h2 : dg (L (ruN blk L n (tkp L n k))) = true
      · rw [if_pos h2]; exact Nat.le_of_lt h
      · rw [if_neg h2]; exact Nat.le_of_lt h
  · rw [if_neg h]
    exact Nat.le_refl _
theorem text_rel {σ τ σ' τ' : Mem} {S : FS} {T : Nat} {VV : VT} (hT : T < 6) (hc : CR σ 40 S) (hm : MR τ S) (hw : sW S ≤ 999) (hρ : ∃ ρ, ρ < T ∧ sV S = VV ρ) (hr : RS σ τ S T VV) (p : ∀ j, j ≠ 0 → j ≠ 3 → j ≠ 5 → j ≠ 6 → j ≠ 7 → j ≠ 8 + 4 * T → j ≠ 9 + 4 * T → j ≠ 10 + 4 * T → j ≠ 4 → σ'.1 j = σ.1 j) (p0 : ∀ k, k ≠ 7 → σ'.1 0 k = σ.1 0 k) (p3 : σ'.1 3 0 = 0) (p2 : σ'.2 = σ.2) (q : ∀ j, j ≠ 0 → j ≠ 1 → j ≠ 2 → τ'.1 j = τ.1 j) (q1 : ∀ k, k < 160 * T → τ'.1 1 k = τ.1 1 k) (q2 : ∀ t, t < T → τ'.1 2 t = τ.1 2 t) (q0 : ∀ k, msc k = false → k ≠ 3 → k ≠ 6 → τ'.1 0 k = τ.1 0 k) (q6 : τ'.1 0 6 = 0) {T' : Nat} {VV' : VT} (hTT : T ≤ T') (hVV : ∀ t, t < T → VV' t = VV t) (ht6 : T' ≤ 6) (h7 : σ'.1 0 7 = nI T') (h3 : τ'.1 0 3 = nI T') (hnew : ∀ t, T ≤ t → t < T' → TS σ' t (VV' t) ∧ MTS τ' t (VV' t)) : Rel σ' τ' := by
  obtain ⟨⟨t1, t2, t3, t4, t5⟩, tp, sh, im⟩ := hr
  have row : ∀ j, 32 ≤ j → σ'.1 j = σ.1 j := fun j hj => p j (by omega) (by omega) (by omega) (by omega) (by omega) (by omega) (by omega) (by omega) (by omega)
  have ots : ∀ t, t < T → ∀ V, TS σ t V → TS σ' t V := fun t ht V h => h.mono (p _ (by omega) (by omega) (by omega) (by omega) (by omega) (by omega) (by omega) (by omega) (by omega)) (p _ (by omega) (by omega) (by omega) (by omega) (by omega) (by omega) (by omega) (by omega) (by omega))
  have omts : ∀ t, t < T → ∀ V, MTS τ t V → MTS τ' t V := fun t ht V h => h.mono (fun i hi => q1 _ (by omega)) (q2 t ht)
  have trC : ∀ b K, 32 ≤ b → CR σ b K → (∃ ρ, ρ < T ∧ sV K = VV ρ) → CR σ' b K := fun b K hb ⟨h0, h1, h2, h3, h4, h5, ρ, hρ, h6, h7⟩ ⟨ρ', hρ', e⟩ => by
    have e3 : ρ = ρ' := by
      have a := h7.1
      rw [e, (t5 ρ' hρ').1.1] at a
      exact nI_inj (by omega) (by omega) a.symm
    subst e3
    refine ⟨h0, by rw [row b hb]; exact h1, by rw [row b hb]; exact h2, by rw [row b hb]; exact h3, fun d hd => ?_, by rw [p2]; exact h5, ρ, hρ, by rw [row b hb]; exact h6, ots ρ hρ' _ h7⟩
    rw [row _ (by omega), row _ (by omega), row _ (by omega)]
    exact h4 d hd
  have trM : MR τ' S := by
    obtain ⟨h0, h1, h2, h3, h4, h5, ρ, hρ2, h6, h7⟩ := hm
    obtain ⟨ρ', hρ', e⟩ := hρ
    have e3 : ρ = ρ' := by
      have a := h7.1
      rw [e, (t5 ρ' hρ').2.1] at a
      exact nI_inj (by omega) (by omega) a.symm
    subst e3
    refine ⟨h0, by rw [q0 13 rfl (by decide) (by decide)]; exact h1, by rw [q0 7 rfl (by decide) (by decide)]; exact h2, by rw [q0 8 rfl (by decide) (by decide)]; exact h3, fun d hd => ?_, fun c hc => by rw [q 4 (by decide) (by decide) (by decide)]; exact h5 c hc, ρ, hρ2, by rw [q0 4 rfl (by decide) (by decide)]; exact h6, omts ρ hρ' _ h7⟩
    rw [q 5 (by decide) (by decide) (by decide), q 6 (by decide) (by decide) (by decide), q 7 (by decide) (by decide) (by decide)]
    exact h4 d hd
  have hρ2 := hρ
  obtain ⟨ρ', hρ', e⟩ := hρ2
  refine ⟨S, T', VV', trC 40 S (by decide) hc hρ, trM, hw, ⟨ρ', by omega, by rw [hVV ρ' hρ']; exact e⟩, ⟨by omega, ht6, h7, h3, fun t ht => ?_⟩, ⟨0, by omega, p3, q6, fun i hi => by omega⟩, fun k hk => (sh k hk).go (row _ (by omega)) (row _ (by omega)) (by rw [q 13 (by decide) (by decide) (by decide)]) (by rw [q 14 (by decide) (by decide) (by decide)]) (by rw [q 15 (by decide) (by decide) (by decide)]) (fun i _ => by rw [q 16 (by decide) (by decide) (by decide)]), ?_⟩
  · by_cases z : t < T
    · rw [hVV t z]
      exact ⟨ots t z _ (t5 t z).1, omts t z _ (t5 t z).2⟩
    · exact hnew t (by omega) ht
  · rcases im with ⟨a, b⟩ | ⟨a, K, k1, ⟨i1, i2, i3, i4, i5, i6⟩, k3, k4, k5, k6⟩
    · exact Or.inl ⟨by rw [p0 8 (by decide)]; exact a, by rw [q0 35 rfl (by decide) (by decide)]; exact b⟩
    · refine Or.inr ⟨by rw [p0 8 (by decide)]; exact a, K, trC 46 K (by decide) k1 k6, ⟨by rw [q0 35 rfl (by decide) (by decide)]; exact i1, by rw [q0 36 rfl (by decide) (by decide)]; exact i2, by rw [q0 37 rfl (by decide) (by decide)]; exact i3, fun d hd => by rw [q 11 (by decide) (by decide) (by decide), q 12 (by decide) (by decide) (by decide)]; exact i4 d hd, fun c hc => by rw [q 10 (by decide) (by decide) (by decide)]; exact i5 c hc, by rw [q0 38 rfl (by decide) (by decide)]; exact i6⟩, k3, k4, k5, ?_⟩
      obtain ⟨ρ2, a1, a2⟩ := k6
      exact ⟨ρ2, by omega, by rw [hVV ρ2 a1]; exact a2⟩
theorem tcopy_L {n T : Nat} (hn : n ≤ 160) (hT : T < 6) : ∀ (m i f : Nat) (τ : Mem), i + m = n → m < f → τ.1 0 6 = nI n → τ.1 0 3 = nI T → ∃ τ2, loopN fX5_text_L14 f (τ, nI i) = fX5_text_b49 τ2 ∧ (∀ j, j ≠ 1 → τ2.1 j = τ.1 j) ∧ τ2.2 = τ.2 ∧ (∀ k, i ≤ k → k < n → τ2.1 1 (160 * T + k) = τ.1 3 k) ∧ ∀ k, k < 160 * T + i → τ2.1 1 k = τ.1 1 k := by
  intro m
  induction m with
  | zero =>
    intro i f τ hi hf h6 h3
    cases f with
    | zero => omega
    | succ f =>
      refine ⟨τ, ?_, fun _ _ => rfl, rfl, fun k a b => by omega, fun _ _ => rfl⟩
      show fX5_text_L14 (loopN _ f) (τ, nI i) = _
      unfold fX5_text_L14
      dsimp only
      rw [h6, if_pos (nI_le (by omega) (by omega))]
  | succ m ih =>
    intro i f τ hi hf h6 h3
    cases f with
    | zero => omega
    | succ f =>
      have step : loopN fX5_text_L14 (f + 1) (τ, nI i) = loopN fX5_text_L14 f (putI τ 1 (160 * T + i) (τ.1 3 i), nI (i + 1)) := by
        show fX5_text_L14 (loopN _ f) (τ, nI i) = _
        unfold fX5_text_L14
        dsimp only
        rw [h6, if_neg (nI_ge (by omega) (by omega)), gd_of (inB_nI (by omega) (by decide)), h3, t160 T hT, nI_add, gd_of (inB_nI (by omega) (by decide)), stp_e, rd_nI (by omega), wr_nI (by omega), nI_1]
      rw [step]
      obtain ⟨τ2, a1, a2, a3, a4, a5⟩ := ih (i + 1) f (putI τ 1 (160 * T + i) (τ.1 3 i)) (by omega) (by omega) (by rw [putI_row _ _ _ _ (by decide)]; exact h6) (by rw [putI_row _ _ _ _ (by decide)]; exact h3)
      refine ⟨τ2, a1, fun j hj => by rw [a2 j hj, putI_row _ _ _ _ hj], a3, fun k h1 h2 => ?_, fun k hk => by rw [a5 k (by omega), putI_fld _ _ _ _ (by omega)]⟩
      by_cases z : k = i
      · subst z
        rw [a5 (160 * T + k) (by omega), putI_self]
      · rw [a4 k (by omega) h2, putI_row _ _ _ _ (by decide)]
theorem st_text : St_text Rel := by
  rintro σ τ ⟨S, h⟩
  have rel0 := h.rel
  dsimp only
  obtain ⟨T, VV, hc, hm, hw, hρ, hr⟩ := h
  have hr2 := hr
  obtain ⟨⟨t1, t2, t3, t4, t5⟩, ⟨n, n1, n2, n3, n4⟩, h3, h4⟩ := hr2
  unfold fX4_text fX5_text
  rw [t3, t4, if_eq_lit (L := 6) (k := 6) rfl (by omega) (by decide)]
  by_cases z : T = 6
  · rw [if_pos z, if_neg (show ¬ nI T < (6 : Int32) from nI_nlt (b := 6) (by omega) (by omega))]
    exact ⟨-4, σ, τ, rfl, rfl, rel0⟩
  have hT : T < 6 := by omega
  rw [if_neg z, if_pos (show nI T < (6 : Int32) from nI_lt (b := 6) hT (by decide)), gd_of (inB_nI hT (by decide)), nI_clamp (show T < 2147483648 by omega)]
  let L : Nat → Nat := fun i => (τ.1 3 i).toNatClampNeg
  have hL : ∀ i, i < n → τ.1 3 i = nI (L i) ∧ L i < 256 := fun i hi => by
    obtain ⟨_, l, hl, e⟩ := n4 i hi
    have : L i = l := by
      show (τ.1 3 i).toNatClampNeg = l
      rw [e, nI_clamp (by omega)]
    rw [this]
    exact ⟨e, hl⟩
  have hLT : LT σ L n := ⟨n1, n2, fun i hi => ⟨(n4 i hi).1.trans (hL i hi).1, (hL i hi).2⟩⟩
  obtain ⟨K, k1, k2, k3, k4, F, f1, f2, f3, f4, f5⟩ := read_ok (b := 8 + 4 * T) (by omega) hLT
  obtain ⟨τ2, a1, a2, a3, a4, a5⟩ := tcopy_L n1 hT n 0 1000 τ (by omega) (by omega) n3 t4
  have c0 : F.1 0 7 = nI T := by rw [f2 0 (by decide) (by decide) (by decide) (by decide) (by omega) (by omega) (by omega)]; exact t3
  have e1 : (putI F 3 0 0).1 0 7 = nI T := by rw [putI_row _ _ _ _ (by decide)]; exact c0
  let τ3 := putI (putI τ2 2 T (nI n)) 0 6 0
  have m3 : τ3.1 0 3 = nI T := by
    show (putI _ 0 6 0).1 0 3 = _
    rw [putI_fld _ _ _ _ (by decide), putI_row _ _ _ _ (by decide), a2 0 (by decide)]
    exact t4
  have m1 : τ3.1 1 = τ2.1 1 := by
    show (putI _ 0 6 0).1 1 = _
    rw [putI_row _ _ _ _ (by decide), putI_row _ _ _ _ (by decide)]
  have m2 : τ3.1 2 T = nI n := by
    show (putI _ 0 6 0).1 2 T = _
    rw [putI_row _ _ _ _ (by decide), putI_self]
  have ml : ∀ i, i < n → τ3.1 1 (160 * T + i) = nI (L i) ∧ L i < 256 := fun i hi => ⟨by rw [m1, a4 i (Nat.zero_le _) hi]; exact (hL i hi).1, (hL i hi).2⟩
  obtain ⟨v, G, g1, g2, g3⟩ := mread_ok (q := 0) (τ := τ3) hT n1 m2 ml k1 k3 (by decide)
  have gm3 : G.1 0 3 = nI T := by rw [g2.2.1 3 rfl]; exact m3
  have b49 : fX5_text_b49 τ2 = if (G.1 0 27) = 0 then some (nI T, putI G 0 3 (nI (T + 1))) else some ((-100) - (G.1 0 28), G) := by
    unfold fX5_text_b49
    rw [a2 0 (by decide), t4, gd_of (inB_nI hT (by decide)), stp_e, wr_nI (by omega), n3, stp_e]
    show (bnd (fX5_read (τ3.1 0 3) 0 τ3) fun r3 σ3 => _) = _
    rw [m3, show fX5_read (nI T) 0 τ3 = some (v, G) from g1, bnd_s, gm3, nI_1, stp_e, putI_self, nI_pred]
  have body : loopN fX5_text_L14 1000 (τ, 0) = fX5_text_b49 τ2 := a1
  rw [body, b49, f1, bnd_s]
  unfold fX1_clear
  rw [stp_e, bn1_s]
  -- the frames of both
  have P : ∀ j, j ≠ 0 → j ≠ 3 → j ≠ 5 → j ≠ 6 → j ≠ 7 → j ≠ 8 + 4 * T → j ≠ 9 + 4 * T → j ≠ 10 + 4 * T → j ≠ 4 → (putI F 3 0 0).1 j = σ.1 j := fun j _ b c d e f g h i => by
    rw [putI_row _ _ _ _ b]
    exact f2 j b c d e f (by omega) (by omega)
  have P0 : ∀ k, (putI F 3 0 0).1 0 k = σ.1 0 k := fun k => by
    rw [putI_row _ _ _ _ (by decide), f2 0 (by decide) (by decide) (by decide) (by decide) (by omega) (by omega) (by omega)]
  have Q : ∀ j, j ≠ 0 → j ≠ 1 → j ≠ 2 → G.1 j = τ.1 j := fun j a b c => by
    rw [g2.1 j a a]
    show (putI _ 0 6 0).1 j = _
    rw [putI_row _ _ _ _ a, putI_row _ _ _ _ c, a2 j b]
  have Q1 : ∀ k, k < 160 * T → G.1 1 k = τ.1 1 k := fun k hk => by
    rw [g2.1 1 (by decide) (by decide), m1]
    exact a5 k (by omega)
  have Q2 : ∀ t, t < T → G.1 2 t = τ.1 2 t := fun t ht => by
    rw [g2.1 2 (by decide) (by decide)]
    show (putI _ 0 6 0).1 2 t = _
    rw [putI_row _ _ _ _ (by decide), putI_fld _ _ _ _ (by omega), a2 2 (by decide)]
  have Q0 : ∀ k, msc k = false → k ≠ 3 → k ≠ 6 → G.1 0 k = τ.1 0 k := fun k a b c => by
    rw [g2.2.1 k a]
    show (putI _ 0 6 0).1 0 k = _
    rw [putI_fld _ _ _ _ c, putI_row _ _ _ _ (by decide), a2 0 (by decide)]
  have Q6 : G.1 0 6 = 0 := by rw [g2.2.1 6 rfl]; exact putI_self ..
  rcases g3 with ⟨ok, b1, b2⟩ | ⟨ok, b1, _⟩
  · have hts := ts_le L n (rds (tk L n) K 3).2.1
    rw [ok, if_neg b1, if_neg (show ¬ (false = true) by decide), if_neg (nI_nem1 (by omega)), b2]
    exact ⟨_, _, _, rfl, rfl, text_rel hT hc hm hw hρ hr P (fun k _ => P0 k) (putI_self ..) f4 Q Q1 Q2 Q0 Q6 (Nat.le_refl _) (fun _ _ => rfl) t2 e1 gm3 (fun t a b => by omega)⟩
  · have cert := cert_of hT n1 m2 ml k1 k3 ok
    rw [ok, if_pos b1, if_pos (show true = true from rfl), if_pos rfl, e1, nI_1, stp_e, putI_self, nI_pred]
    obtain ⟨x1, x2, x3⟩ := f5 ok
    refine ⟨_, _, _, rfl, rfl, text_rel (VV' := fun t => if t = T then RV L n K T else VV t) hT hc hm hw hρ hr (fun j a b c d e f g h i => by rw [putI_row _ _ _ _ a]; exact P j a b c d e f g h i) (fun k a => by rw [putI_fld _ _ _ _ a]; exact P0 k) (by rw [putI_row _ _ _ _ (by decide)]; exact putI_self ..) f4 (fun j a b c => by rw [putI_row _ _ _ _ a]; exact Q j a b c) (fun k hk => by rw [putI_row _ _ _ _ (by decide)]; exact Q1 k hk) (fun t ht => by rw [putI_row _ _ _ _ (by decide)]; exact Q2 t ht) (fun k a b c => by rw [putI_fld _ _ _ _ b]; exact Q0 k a b c) (by rw [putI_fld _ _ _ _ (by decide)]; exact Q6) (Nat.le_succ T) (fun t ht => if_neg (by omega)) (by omega) (putI_self ..) (putI_self ..) (fun t ta tb => ?_)⟩
    have et : t = T := by omega
    subst et
    rw [if_pos rfl]
    have r9 : ∀ j, j = 9 + 4 * t ∨ j = 10 + 4 * t → (putI (putI F 3 0 0) 0 7 (nI (t + 1))).1 j = F.1 j := fun j hj => by rw [putI_row _ _ _ _ (by omega), putI_row _ _ _ _ (by omega)]
    refine ⟨ts_of (by rw [r9 _ (Or.inl rfl), show 9 + 4 * t = 8 + 4 * t + 1 by omega]; exact x1) x2 (fun q hq => by rw [r9 _ (Or.inr rfl), show 10 + 4 * t = 8 + 4 * t + 2 by omega]; exact x3 q hq) cert hT, mts_of hT n1 ?_ (fun i hi => ?_) k1 k3 ok⟩
    · rw [putI_row _ _ _ _ (by decide), g2.1 2 (by decide) (by decide)]; exact m2
    · rw [putI_row _ _ _ _ (by decide), g2.1 1 (by decide) (by decide)]; exact ml i hi
