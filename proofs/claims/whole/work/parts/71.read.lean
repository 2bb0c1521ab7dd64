/-! ===== the class reads a text ===== -/
def rd1 (T : Nat → Int32) (K p i : Nat) (C : List Int32) : Bool × Nat × List Int32 := if T i = -3 - nI p then (yrun T (K + 1) (i + 1, true, [], 0, C)).getD (false, 0, []) else (false, i, C)
def rds (T : Nat → Int32) (K : Nat) : Nat → Bool × Nat × List Int32
  | 0 => (true, 0, [])
  | p + 1 => if (rds T K p).1 = true then rd1 T K p (rds T K p).2.1 (rds T K p).2.2 else rds T K p
theorem rds_stay {T : Nat → Int32} {K p : Nat} (h : (rds T K p).1 = false) : ∀ m, rds T K (p + m) = rds T K p
  | 0 => rfl
  | m + 1 => by
    have ih := rds_stay h m
    show (if (rds T K (p + m)).1 = true then _ else rds T K (p + m)) = _
    rw [ih, h, if_neg (by decide)]
def rok (T : Nat → Int32) (K : Nat) : Bool := (rds T K 3).1 && (T (rds T K 3).2.1 == -1)
def YG (b p : Nat) (σ σ' : Mem) : Prop := (∀ j, j ≠ 3 → j ≠ 7 → j ≠ b → j ≠ b + 1 → j ≠ b + 2 → σ'.1 j = σ.1 j) ∧ (∀ k, ¬ (6 ≤ k ∧ k ≤ 8) → σ'.1 3 k = σ.1 3 k) ∧ (∀ k, k ≠ 3 → k ≠ 4 → σ'.1 b k = σ.1 b k) ∧ (∀ k, k < p → σ'.1 (b + 2) k = σ.1 (b + 2) k) ∧ σ'.2 = σ.2
theorem YG.tr {b p q : Nat} {σ σ' σ'' : Mem} (h : YG b p σ σ') (h' : YG b q σ' σ'') (hpq : p ≤ q) : YG b p σ σ'' := ⟨fun j a c d e f => (h'.1 j a c d e f).trans (h.1 j a c d e f), fun k a => (h'.2.1 k a).trans (h.2.1 k a), fun k a c => (h'.2.2.1 k a c).trans (h.2.2.1 k a c), fun k a => (h'.2.2.2.1 k (by omega)).trans (h.2.2.2.1 k a), h'.2.2.2.2.trans h.2.2.2.2⟩
theorem YF.g {b : Nat} {σ σ' : Mem} (hb : 8 ≤ b) (h : YF b σ σ') (p : Nat) : YG b p σ σ' := ⟨fun j a c d e _ => h.1 j a c d e, h.2.1, fun k a _ => h.2.2.1 k a, fun k _ => by rw [h.1 (b + 2) (by omega) (by omega) (by omega) (by omega)], h.2.2.2⟩
section READ
variable {b : Nat} {L : Nat → Nat} {n K : Nat}
theorem TOK.yg {σ F : Mem} {p : Nat} (hb : 8 ≤ b) (h : TOK σ L n K) (q : YG b p σ F) : TOK F L n K := ⟨h.1, by rw [q.2.1 5 (by omega)]; exact h.2.1, fun k hk => by rw [q.1 5 (by decide) (by decide) (by omega) (by omega) (by omega), q.1 6 (by decide) (by decide) (by omega) (by omega) (by omega)]; exact h.2.2.1 k hk, h.2.2.2⟩
/-- the codes stand: behind part p -/
def CDS (σ : Mem) (b p j : Nat) (C : List Int32) : Prop := σ.1 3 6 = nI j ∧ C.length ≤ j ∧ σ.1 b 3 = nI C.length ∧ SKR (σ.1 (b + 1)) C ∧ σ.1 b 4 = nI p
theorem yrun_S (T : Nat → Int32) (f : Nat) (s : YS) : yrun T (f + 1) s = match ystep T s with | .inl s' => yrun T f s' | .inr r => some r := rfl
theorem yard_run (hb : 8 ≤ b) (hn : n ≤ 160) {p : Nat} (hp : p < 3) (a1 : Int32) : ∀ (m i : Nat) (σ : Mem) (due : Bool) (W : List Int32) (o : Nat) (C : List Int32) (f : Nat), K - i = m → m < f → YV σ b L n K i W o C → σ.1 b 4 = nI p → ∃ ok j C', (∀ g, yrun (tk L n) (m + 1 + g) (i, due, W, o, C) = some (ok, j, C')) ∧ j ≤ K ∧ ∃ F, loopN (fX1_readPart_L32 a1 b) f (σ, cond due 1 0) = some (cond ok 1 0, F) ∧ F.1 3 6 = nI j ∧ YG b p σ F ∧ (ok = true → CDS F b (p + 1) j C' ∧ F.1 (b + 2) p = nI C'.length) := by
  intro m
  induction m with
  | zero =>
    intro i σ due W o C f hm hf hv h4
    have hiK : i = K := by have := hv.2.2.1; omega
    cases f with
    | zero => omega
    | succ f =>
      show ∃ ok j C', _ ∧ _ ∧ ∃ F, fX1_readPart_L32 a1 b (loopN _ f) (σ, cond due 1 0) = _ ∧ _
      rcases yard_step hb hn hv hp h4 due a1 (loopN (fX1_readPart_L32 a1 b) f) with ⟨due', W', o', C', e1, e2, _⟩ | ⟨C', e1, F, e2, e3, e4⟩ | ⟨C', e1, e2, _⟩
      · omega
      · exact ⟨false, i, C', fun g => by rw [show 0 + 1 + g = g + 1 by omega, yrun_S, e1], by omega, F, e2, e3, e4.g hb p, fun z => absurd z (by decide)⟩
      · omega
  | succ m ih =>
    intro i σ due W o C f hm hf hv h4
    cases f with
    | zero => omega
    | succ f =>
      show ∃ ok j C', _ ∧ _ ∧ ∃ F, fX1_readPart_L32 a1 b (loopN _ f) (σ, cond due 1 0) = _ ∧ _
      rcases yard_step hb hn hv hp h4 due a1 (loopN (fX1_readPart_L32 a1 b) f) with ⟨due', W', o', C', e1, e2, F, e3, e4, e5⟩ | ⟨C', e1, F, e2, e3, e4⟩ | ⟨C', e1, e2, F, e3, e4, e5, e6, e7⟩
      · obtain ⟨ok, j, C2, r1, r2, F2, r3, r4, r5, r6⟩ := ih (i + 1) F due' W' o' C' f (by omega) (by omega) e4 (by rw [e5.2.2.1 4 (by decide)]; exact h4)
        exact ⟨ok, j, C2, fun g => by rw [show m + 1 + 1 + g = (m + 1 + g) + 1 by omega, yrun_S, e1]; exact r1 g, r2, F2, by rw [e3]; exact r3, r4, (e5.g hb p).tr r5 (Nat.le_refl _), r6⟩
      · exact ⟨false, i, C', fun g => by rw [show m + 1 + 1 + g = (m + 1 + g) + 1 by omega, yrun_S, e1], by omega, F, e2, e3, e4.g hb p, fun z => absurd z (by decide)⟩
      · refine ⟨true, i + 1, C', fun g => by rw [show m + 1 + 1 + g = (m + 1 + g) + 1 by omega, yrun_S, e1], e2, _, e3, putI_self .., (e4.g hb p).tr (q := p) ⟨fun j a c d e f => ?_, fun k a => ?_, fun k a c => ?_, fun k a => ?_, rfl⟩ (Nat.le_refl _), fun _ => ⟨⟨putI_self .., by omega, ?_, ?_, ?_⟩, ?_⟩⟩
        · rw [putI_row _ _ _ _ a, putI_row _ _ _ _ d, putI_row _ _ _ _ f]
        · rw [putI_fld _ _ _ _ (by omega), putI_row _ _ _ _ (by omega), putI_row _ _ _ _ (by omega)]
        · rw [putI_row _ _ _ _ (by omega), putI_fld _ _ _ _ c, putI_row _ _ _ _ (by omega)]
        · rw [putI_row _ _ _ _ (by omega), putI_row _ _ _ _ (by omega), putI_fld _ _ _ _ (by omega)]
        · rw [putI_row _ _ _ _ (by omega), putI_fld _ _ _ _ (by decide), putI_row _ _ _ _ (by omega)]; exact e6
        · rw [putI_row _ _ _ _ (by omega), putI_row _ _ _ _ (by omega), putI_row _ _ _ _ (by omega)]; exact e7
        · rw [putI_row _ _ _ _ (by omega), putI_self]
        · rw [putI_row _ _ _ _ (by omega), putI_row _ _ _ _ (by omega), putI_self]
theorem isToken_ok {σ : Mem} (hn : n ≤ 160) (ht : TOK σ L n K) {i : Nat} (h6 : σ.1 3 6 = nI i) (hi : i ≤ K) (a : Int32) : fX1_isToken a σ = some (if tk L n i = a then 1 else 0) := by
  have := ht.1
  unfold fX1_isToken
  rw [ht.2.1, h6, if_neg (show ¬ nI (K + 1) ≤ nI i from nI_ge (by omega) (by omega)), gd_of (inB_nI (by omega) (by decide)), rd_nI (by omega), (ht.2.2.1 i hi).1]
  by_cases q : tk L n i = a
  · rw [if_pos q, if_pos q]
  · rw [if_neg q, if_neg q]
theorem place_ok {σ : Mem} (hn : n ≤ 160) (ht : TOK σ L n K) {i : Nat} (h6 : σ.1 3 6 = nI i) (hi : i ≤ K) : fX1_placeOfToken σ = some (nI (ts L n i)) := by
  have := ht.1
  unfold fX1_placeOfToken
  rw [ht.2.1, h6, if_neg (show ¬ nI (K + 1) ≤ nI i from nI_ge (by omega) (by omega)), gd_of (inB_nI (by omega) (by decide)), rd_nI (by omega), (ht.2.2.1 i hi).2]
theorem wcd_123 : ∀ p, p < 3 → (-3 : Int32) - nI p ≠ -1 ∧ (-3 : Int32) - nI p ≠ -2 := by decide
theorem readPart_ok {σ : Mem} (hb : 8 ≤ b) (hn : n ≤ 160) (ht : TOK σ L n K) {p i : Nat} (hp : p < 3) (hi : i ≤ K) {C : List Int32} (hc : CDS σ b p i C) : (rd1 (tk L n) K p i C).2.1 ≤ K ∧ ∃ F, fX1_readPart (-3 - nI p) b σ = some (cond (rd1 (tk L n) K p i C).1 1 0, F) ∧ YG b p σ F ∧ F.1 3 6 = nI (rd1 (tk L n) K p i C).2.1 ∧ ((rd1 (tk L n) K p i C).1 = true → CDS F b (p + 1) (rd1 (tk L n) K p i C).2.1 (rd1 (tk L n) K p i C).2.2 ∧ F.1 (b + 2) p = nI (rd1 (tk L n) K p i C).2.2.length) := by
  obtain ⟨c6, cl, c3, cr, c4⟩ := hc
  unfold rd1 fX1_readPart
  rw [isToken_ok hn ht c6 hi, bn1_s]
  by_cases q : tk L n i = -3 - nI p
  · have hlt : i < K := lt_K hi ht.2.2.2.2 q (wcd_123 p hp).1 (wcd_123 p hp).2
    rw [if_pos q, if_pos q, if_neg (by decide), stp_e, stp_e, putI_fld _ _ _ _ (show 6 ≠ 8 by decide), putI_fld _ _ _ _ (show 6 ≠ 7 by decide), c6, nI_1, stp_e]
    have y0 : YF b σ (putI (putI (putI σ 3 7 0) 3 8 0) 3 6 (nI (i + 1))) := ((yf_3 hb (by omega) _).tr (yf_3 hb (by omega) _)).tr (yf_3 hb (by omega) _)
    have yv : YV (putI (putI (putI σ 3 7 0) 3 8 0) 3 6 (nI (i + 1))) b L n K (i + 1) [] 0 C := ⟨ht.yf hb y0, putI_self .., hlt, ⟨by rw [putI_fld _ _ _ _ (by decide), putI_fld _ _ _ _ (by decide), putI_self]; rfl, by rw [putI_fld _ _ _ _ (by decide), putI_self]; rfl, trivial, by rw [putI_row _ _ _ _ (by omega), putI_row _ _ _ _ (by omega), putI_row _ _ _ _ (by omega)]; exact c3, by rw [putI_row _ _ _ _ (by omega), putI_row _ _ _ _ (by omega), putI_row _ _ _ _ (by omega)]; exact cr⟩, ⟨rfl, fun t ht => absurd ht (List.not_mem_nil)⟩, by simp only [List.length_nil]; omega⟩
    have hK := ht.1
    obtain ⟨ok, j, C', r1, r2, F, r3, r4, r5, r6⟩ := yard_run hb hn hp (-3 - nI p) (K - (i + 1)) (i + 1) _ true [] 0 C 1000 rfl (by omega) yv (by rw [y0.2.2.1 4 (by decide)]; exact c4)
    have r1' : yrun (tk L n) (K + 1) (i + 1, true, [], 0, C) = some (ok, j, C') := by
      have := r1 (i + 1)
      rw [show K - (i + 1) + 1 + (i + 1) = K + 1 by omega] at this
      exact this
    rw [r1']
    exact ⟨r2, F, r3, (y0.g hb p).tr r5 (Nat.le_refl _), r4, r6⟩
  · rw [if_neg q, if_neg q, if_pos rfl]
    exact ⟨hi, σ, rfl, YF.rf.g hb p, c6, fun z => absurd (show false = true from z) (by decide)⟩
theorem read_L (hb : 8 ≤ b) (hn : n ≤ 160) : ∀ (m p : Nat) (σ : Mem) (f : Nat), p + m = 3 → m < f → TOK σ L n K → (rds (tk L n) K p).1 = true → (rds (tk L n) K p).2.1 ≤ K → CDS σ b p (rds (tk L n) K p).2.1 (rds (tk L n) K p).2.2 → (∀ q, q < p → σ.1 (b + 2) q = nI (rds (tk L n) K (q + 1)).2.2.length) → (rds (tk L n) K 3).2.1 ≤ K ∧ ∃ F, loopN (fX1_read_L15 b) f (σ, nI p) = some (if rok (tk L n) K = true then -1 else nI (ts L n (rds (tk L n) K 3).2.1), F) ∧ YG b p σ F ∧ (rok (tk L n) K = true → SKR (F.1 (b + 1)) (rds (tk L n) K 3).2.2 ∧ (rds (tk L n) K 3).2.2.length ≤ 160 ∧ ∀ q, q < 3 → F.1 (b + 2) q = nI (rds (tk L n) K (q + 1)).2.2.length) := by
  intro m
  induction m with
  | zero =>
    intro p σ f hm hf ht hok hle hc he
    have e : p = 3 := by omega
    subst e
    cases f with
    | zero => omega
    | succ f =>
      refine ⟨hle, σ, ?_, YF.rf.g hb 3, fun _ => ⟨hc.2.2.2.1, ?_, he⟩⟩
      · show fX1_read_L15 b _ (σ, nI 3) = _
        unfold fX1_read_L15
        dsimp only
        rw [if_pos (by decide)]
        unfold fX1_read_b43 rok
        rw [isToken_ok hn ht hc.1 hle, bn1_s, hok, Bool.true_and]
        by_cases q : tk L n (rds (tk L n) K 3).2.1 = -1
        · rw [if_pos q, if_neg (by decide), if_pos (by rw [q]; rfl)]
        · rw [if_neg q, if_pos rfl, place_ok hn ht hc.1 hle, bn1_s, if_neg (fun z => q (eq_of_beq z))]
      · have := hc.2.1
        have := ht.1
        omega
  | succ m ih =>
    intro p σ f hm hf ht hok hle hc he
    cases f with
    | zero => omega
    | succ f =>
      obtain ⟨r1, F, r2, r3, r4, r5⟩ := readPart_ok hb hn ht (p := p) (by omega) hle hc
      have es : rds (tk L n) K (p + 1) = rd1 (tk L n) K p (rds (tk L n) K p).2.1 (rds (tk L n) K p).2.2 := by
        show (if (rds (tk L n) K p).1 = true then _ else _) = _
        rw [if_pos hok]
      rw [← es] at r1 r2 r4 r5
      have step : loopN (fX1_read_L15 b) (f + 1) (σ, nI p) = if cond (rds (tk L n) K (p + 1)).1 (1 : Int32) 0 = 0 then (bn1 (fX1_placeOfToken F) fun r8 => some (r8, F)) else loopN (fX1_read_L15 b) f (F, nI (p + 1)) := by
        show fX1_read_L15 b (loopN _ f) (σ, nI p) = _
        unfold fX1_read_L15
        dsimp only
        rw [if_neg (show ¬ (3 : Int32) ≤ nI p from nI_ge (b := 3) (by omega) (by decide)), r2, bnd_s, nI_1]
      rw [step]
      by_cases q : (rds (tk L n) K (p + 1)).1 = true
      · rw [q, if_neg (by decide)]
        obtain ⟨a1, F2, a2, a3, a4⟩ := ih (p + 1) F f (by omega) (by omega) (ht.yg hb r3) q r1 (r5 q).1 (fun k hk => by
          by_cases z : k = p
          · subst z; exact (r5 q).2
          · rw [r3.2.2.2.1 k (by omega)]; exact he k (by omega))
        exact ⟨a1, F2, a2, r3.tr a3 (by omega), a4⟩
      · have q' : (rds (tk L n) K (p + 1)).1 = false := by
          cases h : (rds (tk L n) K (p + 1)).1
          · rfl
          · exact absurd h q
        have e3 : rds (tk L n) K 3 = rds (tk L n) K (p + 1) := by
          rw [← rds_stay q' m]
          congr 1
          omega
        have nok : rok (tk L n) K = false := by unfold rok; rw [e3, q']; rfl
        rw [q', if_pos (show cond false (1 : Int32) 0 = 0 from rfl), place_ok hn (ht.yg hb r3) r4 r1, bn1_s, nok, if_neg (by decide), e3]
        exact ⟨r1, F, rfl, r3, fun z => absurd z (by decide)⟩
/-- what the class reads -/
theorem read_ok {σ : Mem} (hb : 8 ≤ b) (hL : LT σ L n) : ∃ K, K ≤ n ∧ (∀ k, k < K → tk L n k ≠ -1 ∧ tk L n k ≠ -2) ∧ (tk L n K = -1 ∨ tk L n K = -2) ∧ (rds (tk L n) K 3).2.1 ≤ K ∧ ∃ F, fX1_read b σ = some (if rok (tk L n) K = true then -1 else nI (ts L n (rds (tk L n) K 3).2.1), F) ∧ (∀ j, j ≠ 3 → j ≠ 5 → j ≠ 6 → j ≠ 7 → j ≠ b → j ≠ b + 1 → j ≠ b + 2 → F.1 j = σ.1 j) ∧ (∀ k, ¬ (5 ≤ k ∧ k ≤ 8) → F.1 3 k = σ.1 3 k) ∧ F.2 = σ.2 ∧ (rok (tk L n) K = true → SKR (F.1 (b + 1)) (rds (tk L n) K 3).2.2 ∧ (rds (tk L n) K 3).2.2.length ≤ 160 ∧ ∀ q, q < 3 → F.1 (b + 2) q = nI (rds (tk L n) K (q + 1)).2.2.length) := by
  obtain ⟨σ1, K, t1, t2, t3⟩ := findTokens_ok hL
  have hn := hL.1
  have hT2 : TOK (putI (putI (putI σ1 b 3 0) b 4 0) 3 6 0) L n K := by
    refine ⟨t2.1, ?_, fun k hk => ?_, t2.2.2.2⟩
    · rw [putI_fld _ _ _ _ (by decide), putI_row _ _ _ _ (by omega), putI_row _ _ _ _ (by omega)]; exact t2.2.1
    · rw [putI_row _ _ _ _ (by decide), putI_row _ _ _ _ (by omega), putI_row _ _ _ _ (by omega), putI_row _ _ _ _ (by decide), putI_row _ _ _ _ (by omega), putI_row _ _ _ _ (by omega)]; exact t2.2.2.1 k hk
  have hC : CDS (putI (putI (putI σ1 b 3 0) b 4 0) 3 6 0) b 0 0 [] := ⟨putI_self .., Nat.le_refl _, by rw [putI_row _ _ _ _ (by omega), putI_fld _ _ _ _ (by decide), putI_self]; rfl, trivial, by rw [putI_row _ _ _ _ (by omega), putI_self]; rfl⟩
  obtain ⟨a1, F, a2, a3, a4⟩ := read_L hb hn 3 0 _ 1000 rfl (by decide) hT2 rfl (Nat.zero_le _) hC (fun q hq => absurd hq (Nat.not_lt_zero _))
  refine ⟨K, t2.1, t2.2.2.2.1, t2.2.2.2.2, a1, F, ?_, fun j c3 c5 c6 c7 cb cb1 cb2 => ?_, fun k hk => ?_, ?_, a4⟩
  · unfold fX1_read fX3_clear
    rw [t1, bn1_s, stp_e, stp_e, bn1_s, stp_e]
    exact a2
  · rw [a3.1 j c3 c7 cb cb1 cb2, putI_row _ _ _ _ c3, putI_row _ _ _ _ cb, putI_row _ _ _ _ cb]
    exact t3.1 j c3 c5 c6
  · rw [a3.2.1 k (by omega), putI_fld _ _ _ _ (by omega), putI_row _ _ _ _ (by omega), putI_row _ _ _ _ (by omega)]
    exact t3.2.1 k (by omega)
  · rw [a3.2.2.2.2]
    exact t3.2.2
end READ
