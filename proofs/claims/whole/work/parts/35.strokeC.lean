/-! ===== a stroke and a week of the class ===== -/
theorem CR.same {σ σ' : Mem} {b : Nat} {S : FS} (h : CR σ b S) (e0 : σ'.1 b = σ.1 b) (e1 : σ'.1 (b + 1) = σ.1 (b + 1)) (e2 : σ'.1 (b + 2) = σ.1 (b + 2)) (e3 : σ'.1 (b + 3) = σ.1 (b + 3)) (e : σ'.2 b 3 = σ.2 b 3) (et : ∀ k, k < 6 → σ'.1 (9 + 4 * k) = σ.1 (9 + 4 * k) ∧ σ'.1 (10 + 4 * k) = σ.1 (10 + 4 * k)) : CR σ' b S := by
  obtain ⟨h0, h1, h2, h3, h4, h5, ρ, hρ, h6, h7⟩ := h
  refine ⟨h0, by rw [e0]; exact h1, by rw [e0]; exact h2, by rw [e0]; exact h3, fun d hd => ?_, by rw [e]; exact h5, ρ, hρ, by rw [e0]; exact h6, h7.mono (et ρ hρ).1 (et ρ hρ).2⟩
  rw [e1, e2, e3]
  exact h4 d hd
theorem tx_fl {b : Nat} (hb : isFl b) {k : Nat} (hk : k < 6) : (∀ j, j < 6 → 9 + 4 * k ≠ b + j) ∧ (∀ j, j < 6 → 10 + 4 * k ≠ b + j) := by
  rcases hb with rfl | rfl | rfl | rfl <;> exact ⟨fun j hj => by omega, fun j hj => by omega⟩
/-- the same but for scratch and what lies in row x -/
def SX (x : Nat) (σ σ' : Mem) : Prop := (∀ j, scr j = false → j ≠ x → σ'.1 j = σ.1 j) ∧ σ'.2 = σ.2
theorem SX.rf {x : Nat} {σ : Mem} : SX x σ σ := ⟨fun _ _ _ => rfl, rfl⟩
theorem SX.sq {x : Nat} {σ σ' σ'' : Mem} (h : SX x σ σ') (q : SQ σ' σ'') : SX x σ σ'' := ⟨fun j hj hx => (q.1 j hj).trans (h.1 j hj hx), q.2.trans h.2⟩
theorem SX.put {x : Nat} {σ σ' : Mem} {k : Nat} {v : Int32} (h : SX x σ σ') : SX x σ (putI σ' x k v) := ⟨fun j hj hx => by rw [putI_row σ' x k v hx]; exact h.1 j hj hx, h.2⟩
theorem CR.sx {σ σ' : Mem} {b : Nat} {S : FS} (hb : isFl b) (h : CR σ b S) (q : SX (b + 4) σ σ') : CR σ' b S := by
  obtain ⟨s0, s1, s2, s3, s4, s5⟩ := scr_fl hb
  refine h.same (q.1 _ s0 (by omega)) (q.1 _ s1 (by omega)) (q.1 _ s2 (by omega)) (q.1 _ s3 (by omega)) (by rw [q.2]) (fun k hk => ?_)
  have t := tx_fl hb hk
  exact ⟨q.1 _ (scr_tx k hk).2.1 (t.1 4 (by omega)), q.1 _ (scr_tx k hk).2.2.1 (t.2 4 (by omega))⟩
/-- a floor of the class and what is its own may change, nothing else -/
def FR (b : Nat) (σ σ' : Mem) : Prop := (∀ j, scr j = false → (∀ k, k < 5 → j ≠ b + k) → σ'.1 j = σ.1 j) ∧ (∀ j, j ≠ b → σ'.2 j = σ.2 j)
theorem FR.rf {b : Nat} {σ : Mem} : FR b σ σ := ⟨fun _ _ _ => rfl, fun _ _ => rfl⟩
theorem FR.tr {b : Nat} {σ σ' σ'' : Mem} (h : FR b σ σ') (h' : FR b σ' σ'') : FR b σ σ'' := ⟨fun j hj hk => (h'.1 j hj hk).trans (h.1 j hj hk), fun j hj => (h'.2 j hj).trans (h.2 j hj)⟩
theorem SQ.fr {σ σ' : Mem} (b : Nat) (h : SQ σ σ') : FR b σ σ' := ⟨fun j hj _ => h.1 j hj, fun j _ => by rw [h.2]⟩
theorem SX.fr {σ σ' : Mem} {b k : Nat} (hk : k < 5) (h : SX (b + k) σ σ') : FR b σ σ' := ⟨fun j hj hq => h.1 j hj (hq k hk), fun j _ => by rw [h.2]⟩
theorem okS_setA {S : FS} (h : okS S) {T : Nat → Option Nat} (hT : ∀ d, d < sN S → ∀ c, T d = some c → c < 36) : okS (setA S T) := ⟨h.1, fun d hd => ⟨(h.2.1 d hd).1, (h.2.1 d hd).2.1, hT d hd⟩, h.2.2⟩
theorem settle_ok {σ : Mem} {b : Nat} {S : FS} (hb : isFl b) (h : CR σ b S) (T : Nat → Option Nat) (hT : ∀ d, d < sN S → ∀ c, T d = some c → c < 36) (hx : ∀ d, d < sN S → σ.1 (b + 4) d = enc (T d)) : ∃ r, fX0_settle b σ = some r ∧ (r.1 = nI (newOut S (setA S T)) ∧ CR r.2 b (setA S T) ∧ SX (b + 3) σ r.2) := by
  have hn := h.n
  obtain ⟨s0, s1, s2, s3, s4, s5⟩ := scr_fl hb
  refine loop_in (b := fX0_settle_L4 b) (fun i v => v.2.2 = nI i ∧ v.2.1 = nI (cnt (fun d => sA S d != none && T d == none) i) ∧ SX (b + 3) σ v.1 ∧ ∀ d, d < sN S → v.1.1 (b + 3) d = enc (if d < i then T d else sA S d)) (fun r => r.1 = nI (newOut S (setA S T)) ∧ CR r.2 b (setA S T) ∧ SX (b + 3) σ r.2) (sN S) ?_ ?_ 1000 0 (σ, 0, 0) (Nat.zero_le _) (by omega) ⟨rfl, rfl, SX.rf, fun d hd => by rw [if_neg (by omega)]; exact (h.2.2.2.2.1 d hd).2.2⟩
  · rintro i ⟨σi, y, z⟩ hi ⟨hz, hy, hq, hr⟩
    dsimp only at hz hy hq hr
    subst hz hy
    have g8 : inB (nI i) 8 = true := inB_nI (by omega) (by omega)
    have hn7 : σi.1 b 7 = nI (sN S) := by rw [hq.1 b s0 (by omega)]; exact h.2.1
    have hx4 : σi.1 (b + 4) i = enc (T i) := by rw [hq.1 _ s4 (by omega)]; exact hx i hi
    have hc3 : σi.1 (b + 3) i = enc (sA S i) := by rw [hr i hi, if_neg (by omega)]
    have hw : wr σi (b + 3) (nI i) (rd σi (b + 4) (nI i)) = putI σi (b + 3) i (enc (T i)) := by rw [rd_nI (by omega), hx4, wr_nI (by omega)]
    refine ⟨(putI σi (b + 3) i (enc (T i)), nI (cnt (fun d => sA S d != none && T d == none) (i + 1)), nI (i + 1)), fun ih => ?_, rfl, rfl, hq.put, fun d hd => ?_⟩
    · unfold fX0_settle_L4
      dsimp only
      rw [hn7, if_neg (nI_ge hi (by omega)), hw]
      simp only [stp_e]
      simp only [gd_of g8]
      rw [rd_nI (by omega), rd_nI (by omega), hx4, hc3, nI_1]
      by_cases q : sA S i = none
      · rw [if_pos ((enc_none (h.at36 hi)).mpr q)]
        simp [cnt, q]
      · rw [if_neg (fun w => q ((enc_none (h.at36 hi)).mp w))]
        by_cases q2 : T i = none
        · rw [if_pos ((enc_none (hT i hi)).mpr q2), nI_1]
          simp [cnt, q, q2]
        · rw [if_neg (fun w => q2 ((enc_none (hT i hi)).mp w))]
          simp [cnt, q, q2]
    · dsimp only
      rw [putI_at]
      by_cases e : d = i
      · subst e; rw [if_pos ⟨rfl, rfl⟩, if_pos (by omega)]
      · rw [if_neg (fun w => e w.2), hr d hd]
        by_cases q : d < i
        · rw [if_pos q, if_pos (by omega)]
        · rw [if_neg q, if_neg (by omega)]
  · rintro ⟨σi, y, z⟩ ⟨hz, hy, hq, hr⟩
    dsimp only at hz hy hq hr
    subst hz hy
    have hn7 : σi.1 b 7 = nI (sN S) := by rw [hq.1 b s0 (by omega)]; exact h.2.1
    refine ⟨_, fun ih => by
      unfold fX0_settle_L4
      dsimp only
      rw [hn7, if_pos (nI_le (Nat.le_refl _) (by omega))], rfl, ?_, hq⟩
    obtain ⟨h0, h1, h2, h3, h4, h5, ρ, hρ, h6, h7⟩ := h
    have t := tx_fl hb hρ
    refine ⟨okS_setA h0 hT, hn7, ?_, ?_, fun d hd => ⟨?_, ?_, ?_⟩, ?_, ρ, hρ, ?_, h7.mono (hq.1 _ (scr_tx ρ hρ).2.1 (t.1 3 (by omega))) (hq.1 _ (scr_tx ρ hρ).2.2.1 (t.2 3 (by omega)))⟩
    · dsimp only; rw [hq.1 b s0 (by omega)]; exact h2
    · dsimp only; rw [hq.1 b s0 (by omega)]; exact h3
    · dsimp only; rw [hq.1 _ s1 (by omega)]; exact (h4 d hd).1
    · dsimp only; rw [hq.1 _ s2 (by omega)]; exact (h4 d hd).2.1
    · dsimp only; have := hr d hd; rw [if_pos (show d < sN S from hd)] at this; exact this
    · dsimp only; rw [hq.2]; exact h5
    · dsimp only; rw [hq.1 b s0 (by omega)]; exact h6
theorem sway_24 : ∀ s, s < 24 → (if (12 : Int32) ≤ nI s then 3 + (nI s - nI s / 2 * 2) else 1 + (nI s - nI s / 2 * 2)) = nI (swayS s) ∧ swayS s < 5 := by decide +kernel
theorem brush_ok {σ : Mem} {b : Nat} {S : FS} (hb : isFl b) (h : CR σ b S) {s : Nat} (hs : s < 24) : ∃ r, fX0_brush b (nI s) σ = some r ∧ (r.1 = nI (newOut S (strokeS S s)) ∧ CR r.2 b (strokeS S s) ∧ FR b σ r.2) := by
  have hn := h.n
  obtain ⟨s0, s1, s2, s3, s4, s5⟩ := scr_fl hb
  obtain ⟨w1, w2⟩ := sway_24 s hs
  have key : ∃ r, loopN (fX0_brush_L18 b (nI s)) 1000 (σ, nI (swayS s), 0) = some r ∧ (r.1 = nI (newOut S (strokeS S s)) ∧ CR r.2 b (strokeS S s) ∧ FR b σ r.2) := by
    refine loop_in (b := fX0_brush_L18 b (nI s)) (fun i v => v.2.2 = nI i ∧ v.2.1 = nI (swayS s) ∧ SX (b + 4) σ v.1 ∧ ∀ d, d < i → v.1.1 (b + 4) d = enc (strkS S s d)) _ (sN S) ?_ ?_ 1000 0 (σ, nI (swayS s), 0) (Nat.zero_le _) (by omega) ⟨rfl, rfl, SX.rf, fun d hd => by omega⟩
    · rintro i ⟨σi, y, z⟩ hi ⟨hz, hy, hq, hr⟩
      dsimp only at hz hy hq hr
      subst hz hy
      have g8 : inB (nI i) 8 = true := inB_nI (by omega) (by omega)
      have hi1 := h.sx hb hq
      have hw : wr σi (b + 4) (nI i) (rd σi (b + 3) (nI i)) = putI σi (b + 4) i (enc (sA S i)) := by rw [rd_nI (by omega), (hi1.2.2.2.2.1 i hi).2.2, wr_nI (by omega)]
      have q2 : SX (b + 4) σ (putI σi (b + 4) i (enc (sA S i))) := hq.put
      have h2 := h.sx hb q2
      have x2 : ∀ d, d < i + 1 → (putI σi (b + 4) i (enc (sA S i))).1 (b + 4) d = enc (if d < i then strkS S s d else sA S d) := fun d hd => by
        rw [putI_at]
        by_cases e : d = i
        · subst e; rw [if_pos ⟨rfl, rfl⟩, if_neg (by omega)]
        · rw [if_neg (fun w => e w.2), hr d (by omega), if_pos (by omega)]
      generalize hτ : putI σi (b + 4) i (enc (sA S i)) = τ at hw q2 h2 x2
      have c3 : rd τ (b + 3) (nI i) = enc (sA S i) := by rw [rd_nI (by omega)]; exact (h2.2.2.2.2.1 i hi).2.2
      -- it stays
      have stay : strkS S s i = sA S i → ∀ τ' : Mem, SQ τ τ' → ∀ d, d < i + 1 → τ'.1 (b + 4) d = enc (strkS S s d) := fun e τ' qq d hd => by
        rw [qq.1 _ s4, x2 d hd]
        by_cases q : d < i
        · rw [if_pos q]
        · rw [if_neg q, show d = i by omega, e]
      -- it is blown
      have blow : ∀ c, sA S i = some c → strkS S s i = swpS (sC S) (swayS s) (farS S i c) c → ∀ τ1 : Mem, SQ τ τ1 → ∃ v', (∀ ih, fX0_brush_b72 b (nI s) ih τ1 (nI (swayS s)) (nI i) = ih v') ∧ (v'.2.2 = nI (i + 1) ∧ v'.2.1 = nI (swayS s) ∧ SX (b + 4) σ v'.1 ∧ ∀ d, d < i + 1 → v'.1.1 (b + 4) d = enc (strkS S s d)) := fun c hc e τ1 q1 => by
        have h3 := h2.sq hb q1
        have hc36 := h.at36 hi c hc
        obtain ⟨τ2, hf, q3⟩ := far_ok hb h3 hi hc
        have h4 := h3.sq hb q3
        have hfl := farS_le S i c h.1 hi
        have e3 : rd τ1 (b + 3) (nI i) = nI c := by rw [rd_nI (by omega), (h3.2.2.2.2.1 i hi).2.2, hc]; rfl
        refine ⟨(putI τ2 (b + 4) i (enc (strkS S s i)), nI (swayS s), nI (i + 1)), fun ih => ?_, rfl, rfl, ((q2.sq q1).sq q3).put, fun d hd => ?_⟩
        · unfold fX0_brush_b72
          rw [gd_of g8, hf, bnd_s, e3, swept_ok h4 hc36 w2 (by omega), bn1_s, gd_of g8, stp_e, wr_nI (by omega), ← e, nI_1]
        · dsimp only
          rw [putI_at]
          by_cases w : d = i
          · subst w; rw [if_pos ⟨rfl, rfl⟩]
          · rw [if_neg (fun z => w z.2), q3.1 _ s4, q1.1 _ s4, x2 d hd, if_pos (by omega)]
      have body : ∀ ih, fX0_brush_L18 b (nI s) ih (σi, nI (swayS s), nI i) = bn1 (fX0_isInLine (enc (sA S i)) (nI s) τ) fun r3 => if r3 = 0 then ih (τ, nI (swayS s), nI i + 1) else gd (inB (nI i) 8) (bn1 (fX0_isCracked b (enc (sA S i)) τ) fun r4 => if r4 = 0 then fX0_brush_b72 b (nI s) ih τ (nI (swayS s)) (nI i) else bnd (fX0_isFree b (nI i) τ) fun r10 σ10 => if r10 = 0 then ih (σ10, nI (swayS s), nI i + 1) else fX0_brush_b72 b (nI s) ih σ10 (nI (swayS s)) (nI i)) := fun ih => by
        unfold fX0_brush_L18
        dsimp only
        rw [hi1.2.1, if_neg (nI_ge hi (by omega)), gd_of g8, gd_of g8, stp_e, hw, gd_of g8, c3]
      have fin : ∀ τ1 : Mem, SQ τ τ1 → strkS S s i = sA S i → ∃ v', (∀ ih : Mem × Int32 × Int32 → Option (Int32 × Mem), ih (τ1, nI (swayS s), nI i + 1) = ih v') ∧ (v'.2.2 = nI (i + 1) ∧ v'.2.1 = nI (swayS s) ∧ SX (b + 4) σ v'.1 ∧ ∀ d, d < i + 1 → v'.1.1 (b + 4) d = enc (strkS S s d)) := fun τ1 q1 e => ⟨(τ1, nI (swayS s), nI (i + 1)), fun ih => by rw [nI_1], rfl, rfl, q2.sq q1, stay e τ1 q1⟩
      cases hc : sA S i with
      | none =>
        obtain ⟨v', a1, a2⟩ := fin τ SQ.rf (by unfold strkS; rw [hc])
        refine ⟨v', fun ih => ?_, a2⟩
        rw [body, hc, show enc none = -1 from rfl, isInLine_out, bn1_s, if_pos rfl]
        exact a1 ih
      | some c =>
        have hc36 := h.at36 hi c hc
        by_cases ql : lineS s c = true
        · by_cases qc : sC S c = true
          · obtain ⟨τ1, hf, q1⟩ := isFree_ok hb h2 hi hc
            by_cases qf : freeS S i c = true
            · obtain ⟨v', a1, a2⟩ := blow c hc (by unfold strkS; rw [hc]; simp [ql, qc, qf]) τ1 q1
              refine ⟨v', fun ih => ?_, a2⟩
              rw [body, hc, show enc (some c) = nI c from rfl, isInLine_ok τ hc36 hs, bn1_s, if_pos ql, if_neg (by decide), gd_of g8, isCracked_ok h2 hc36, bn1_s, if_pos qc, if_neg (by decide), hf, bnd_s, if_pos qf, if_neg (by decide)]
              exact a1 ih
            · obtain ⟨v', a1, a2⟩ := fin τ1 q1 (by unfold strkS; rw [hc]; simp [ql, qc, qf])
              refine ⟨v', fun ih => ?_, a2⟩
              rw [body, hc, show enc (some c) = nI c from rfl, isInLine_ok τ hc36 hs, bn1_s, if_pos ql, if_neg (by decide), gd_of g8, isCracked_ok h2 hc36, bn1_s, if_pos qc, if_neg (by decide), hf, bnd_s, if_neg qf, if_pos rfl]
              exact a1 ih
          · obtain ⟨v', a1, a2⟩ := blow c hc (by unfold strkS; rw [hc]; simp [ql, qc]) τ SQ.rf
            refine ⟨v', fun ih => ?_, a2⟩
            rw [body, hc, show enc (some c) = nI c from rfl, isInLine_ok τ hc36 hs, bn1_s, if_pos ql, if_neg (by decide), gd_of g8, isCracked_ok h2 hc36, bn1_s, if_neg qc, if_pos rfl]
            exact a1 ih
        · obtain ⟨v', a1, a2⟩ := fin τ SQ.rf (by unfold strkS; rw [hc]; simp [ql])
          refine ⟨v', fun ih => ?_, a2⟩
          rw [body, hc, show enc (some c) = nI c from rfl, isInLine_ok τ hc36 hs, bn1_s, if_neg ql, if_pos rfl]
          exact a1 ih
    · rintro ⟨σi, y, z⟩ ⟨hz, hy, hq, hr⟩
      dsimp only at hz hy hq hr
      subst hz hy
      have hi1 := h.sx hb hq
      obtain ⟨r, e1, e2, e3, e4⟩ := settle_ok hb hi1 (strkS S s) (fun d hd c hc => strkS_lt h.1 hd hc) hr
      refine ⟨r, fun ih => ?_, e2, e3, (hq.fr (by omega)).tr (e4.fr (by omega))⟩
      unfold fX0_brush_L18
      dsimp only
      rw [hi1.2.1, if_pos (nI_le (Nat.le_refl _) (by omega)), e1]
      rfl
  unfold fX0_brush
  by_cases q : (12 : Int32) ≤ nI s
  · rw [if_pos q] at w1 ⊢
    rw [w1]; exact key
  · rw [if_neg q] at w1 ⊢
    rw [w1]; exact key
theorem othS_lt {w : Nat} (h : w < 5) : othS w < 5 := by
  unfold othS
  split
  · omega
  · split <;> omega
theorem wayS_lt {S : FS} (h : okS S) {d c : Nat} (hd : d < sN S) : wayS S d c < 5 := by
  have h1 := m5_lt (sV S 2 (fct S d c))
  unfold wayS
  split <;> first | omega | exact othS_lt h1 | (split <;> omega)
theorem drift_ok {σ : Mem} {b : Nat} {S : FS} (hb : isFl b) (h : CR σ b S) (hw : sW S < 1100) : ∃ r, fX0_drift b σ = some r ∧ (r.1 = nI (newOut S (weekS S)) ∧ CR r.2 b (weekS S) ∧ FR b σ r.2) := by
  have hn := h.n
  obtain ⟨s0, s1, s2, s3, s4, s5⟩ := scr_fl hb
  unfold fX0_drift
  refine loop_in (b := fX0_drift_L2 b) (fun i v => v.2 = nI i ∧ SX (b + 4) σ v.1 ∧ ∀ d, d < i → v.1.1 (b + 4) d = enc (wkS S d)) _ (sN S) ?_ ?_ 1000 0 (σ, 0) (Nat.zero_le _) (by omega) ⟨rfl, SX.rf, fun d hd => by omega⟩
  · rintro i ⟨σi, z⟩ hi ⟨hz, hq, hr⟩
    dsimp only at hz hq hr
    subst hz
    have g8 : inB (nI i) 8 = true := inB_nI (by omega) (by omega)
    have hi1 := h.sx hb hq
    have hw : wr σi (b + 4) (nI i) (rd σi (b + 3) (nI i)) = putI σi (b + 4) i (enc (sA S i)) := by rw [rd_nI (by omega), (hi1.2.2.2.2.1 i hi).2.2, wr_nI (by omega)]
    have q2 : SX (b + 4) σ (putI σi (b + 4) i (enc (sA S i))) := hq.put
    have h2 := h.sx hb q2
    have x2 : ∀ d, d < i + 1 → (putI σi (b + 4) i (enc (sA S i))).1 (b + 4) d = enc (if d < i then wkS S d else sA S d) := fun d hd => by
      rw [putI_at]
      by_cases e : d = i
      · subst e; rw [if_pos ⟨rfl, rfl⟩, if_neg (by omega)]
      · rw [if_neg (fun w => e w.2), hr d (by omega), if_pos (by omega)]
    generalize hτ : putI σi (b + 4) i (enc (sA S i)) = τ at hw q2 h2 x2
    have c3 : rd τ (b + 3) (nI i) = enc (sA S i) := by rw [rd_nI (by omega)]; exact (h2.2.2.2.2.1 i hi).2.2
    have stay : wkS S i = sA S i → ∀ τ' : Mem, SQ τ τ' → ∀ d, d < i + 1 → τ'.1 (b + 4) d = enc (wkS S d) := fun e τ' qq d hd => by
      rw [qq.1 _ s4, x2 d hd]
      by_cases q : d < i
      · rw [if_pos q]
      · rw [if_neg q, show d = i by omega, e]
    have blow : ∀ c, sA S i = some c → wkS S i = stepS c (wayS S i c) → ∀ τ1 : Mem, SQ τ τ1 → ∃ v', (∀ ih, fX0_drift_b53 b ih τ1 (nI i) = ih v') ∧ (v'.2 = nI (i + 1) ∧ SX (b + 4) σ v'.1 ∧ ∀ d, d < i + 1 → v'.1.1 (b + 4) d = enc (wkS S d)) := fun c hc e τ1 q1 => by
      have h3 := h2.sq hb q1
      have hc36 := h.at36 hi c hc
      obtain ⟨τ2, hf, q3⟩ := way_ok hb h3 hi hc
      have hwl := wayS_lt h.1 hi (c := c)
      have e3 : rd τ1 (b + 3) (nI i) = nI c := by rw [rd_nI (by omega), (h3.2.2.2.2.1 i hi).2.2, hc]; rfl
      refine ⟨(putI τ2 (b + 4) i (enc (wkS S i)), nI (i + 1)), fun ih => ?_, rfl, ((q2.sq q1).sq q3).put, fun d hd => ?_⟩
      · unfold fX0_drift_b53
        rw [gd_of g8, hf, bnd_s, e3, stepped_ok τ2 hc36 hwl, bn1_s, gd_of g8, stp_e, wr_nI (by omega), ← e, nI_1]
      · dsimp only
        rw [putI_at]
        by_cases w : d = i
        · subst w; rw [if_pos ⟨rfl, rfl⟩]
        · rw [if_neg (fun z => w z.2), q3.1 _ s4, q1.1 _ s4, x2 d hd, if_pos (by omega)]
    have body : ∀ ih, fX0_drift_L2 b ih (σi, nI i) = if enc (sA S i) = -1 then ih (τ, nI i + 1) else gd (inB (nI i) 8) (bn1 (fX0_isCracked b (enc (sA S i)) τ) fun r4 => if r4 = 0 then fX0_drift_b53 b ih τ (nI i) else bnd (fX0_isFree b (nI i) τ) fun r10 σ10 => if r10 = 0 then ih (σ10, nI i + 1) else fX0_drift_b53 b ih σ10 (nI i)) := fun ih => by
      unfold fX0_drift_L2
      dsimp only
      rw [hi1.2.1, if_neg (nI_ge hi (by omega)), gd_of g8, gd_of g8, stp_e, hw, gd_of g8, c3]
    have fin : ∀ τ1 : Mem, SQ τ τ1 → wkS S i = sA S i → ∃ v', (∀ ih : Mem × Int32 → Option (Int32 × Mem), ih (τ1, nI i + 1) = ih v') ∧ (v'.2 = nI (i + 1) ∧ SX (b + 4) σ v'.1 ∧ ∀ d, d < i + 1 → v'.1.1 (b + 4) d = enc (wkS S d)) := fun τ1 q1 e => ⟨(τ1, nI (i + 1)), fun ih => by rw [nI_1], rfl, q2.sq q1, stay e τ1 q1⟩
    cases hc : sA S i with
    | none =>
      obtain ⟨v', a1, a2⟩ := fin τ SQ.rf (by unfold wkS; rw [hc])
      refine ⟨v', fun ih => ?_, a2⟩
      rw [body, hc, if_pos (show enc none = -1 from rfl)]
      exact a1 ih
    | some c =>
      have hc36 := h.at36 hi c hc
      have hne : ¬ enc (some c) = -1 := fun z => by have := (enc_none (a := some c) (fun x hx => by cases hx; exact hc36)).mp z; cases this
      by_cases qc : sC S c = true
      · obtain ⟨τ1, hf, q1⟩ := isFree_ok hb h2 hi hc
        by_cases qf : freeS S i c = true
        · obtain ⟨v', a1, a2⟩ := blow c hc (by unfold wkS; rw [hc]; simp [qc, qf]) τ1 q1
          refine ⟨v', fun ih => ?_, a2⟩
          rw [body, hc, if_neg hne, show enc (some c) = nI c from rfl, gd_of g8, isCracked_ok h2 hc36, bn1_s, if_pos qc, if_neg (by decide), hf, bnd_s, if_pos qf, if_neg (by decide)]
          exact a1 ih
        · obtain ⟨v', a1, a2⟩ := fin τ1 q1 (by unfold wkS; rw [hc]; simp [qc, qf])
          refine ⟨v', fun ih => ?_, a2⟩
          rw [body, hc, if_neg hne, show enc (some c) = nI c from rfl, gd_of g8, isCracked_ok h2 hc36, bn1_s, if_pos qc, if_neg (by decide), hf, bnd_s, if_neg qf, if_pos rfl]
          exact a1 ih
      · obtain ⟨v', a1, a2⟩ := blow c hc (by unfold wkS; rw [hc]; simp [qc]) τ SQ.rf
        refine ⟨v', fun ih => ?_, a2⟩
        rw [body, hc, if_neg hne, show enc (some c) = nI c from rfl, gd_of g8, isCracked_ok h2 hc36, bn1_s, if_neg qc, if_pos rfl]
        exact a1 ih
  · rintro ⟨σi, z⟩ ⟨hz, hq, hr⟩
    dsimp only at hz hq hr
    subst hz
    have hi1 := h.sx hb hq
    have h4 : σi.1 b 4 + 1 = nI (sW S + 1) := by rw [hi1.2.2.1, nI_1]
    generalize hτ : putI σi b 4 (nI (sW S + 1)) = τ
    have ht0 : ∀ j, j ≠ b → τ.1 j = σi.1 j := fun j hj => by rw [← hτ, putI_row σi b 4 _ hj]
    have ht2 : τ.2 = σi.2 := by rw [← hτ]; rfl
    have htb : ∀ k, τ.1 b k = if k = 4 then nI (sW S + 1) else σi.1 b k := fun k => by
      rw [← hτ, putI_at]; by_cases e : k = 4 <;> simp [e]
    have ht : CR τ b (setW S (sW S + 1)) := by
      obtain ⟨h0, h1, h2, h3, h4, h5, ρ, hρ, h6, h7⟩ := hi1
      have t := tx_fl hb hρ
      refine ⟨⟨h0.1, h0.2.1, hw, h0.2.2.2⟩, by rw [htb]; exact h1, by rw [htb]; rfl, by rw [htb]; exact h3, fun d hd => ?_, by rw [ht2]; exact h5, ρ, hρ, by rw [htb]; exact h6, h7.mono (ht0 _ (t.1 0 (by omega))) (ht0 _ (t.2 0 (by omega)))⟩
      rw [ht0 _ (by omega), ht0 _ (by omega), ht0 _ (by omega)]
      exact h4 d hd
    obtain ⟨r, e1, e2, e3, e4⟩ := settle_ok hb ht (wkS S) (fun d hd c hc => wkS_lt h.1 hd hc) (fun d hd => by rw [ht0 _ (by omega)]; exact hr d hd)
    refine ⟨r, fun ih => ?_, e2, e3, ((hq.fr (by omega)).tr ⟨fun j hj hk => ht0 j (hk 0 (by omega)), fun j hj => by rw [ht2]⟩).tr (e4.fr (by omega))⟩
    unfold fX0_drift_L2
    dsimp only
    rw [hi1.2.1, if_pos (nI_le (Nat.le_refl _) (by omega))]
    unfold fX0_drift_b79
    rw [h4, hτ, stp_e, e1]
    rfl
