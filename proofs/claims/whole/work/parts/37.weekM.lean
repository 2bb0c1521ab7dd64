/-! ===== a stroke and a week of the model ===== -/
def FM (τ τ' : Mem) : Prop := (∀ j, j ≠ 0 → j ≠ 7 → j ≠ 8 → τ'.1 j = τ.1 j) ∧ (∀ k, msc k = false → k ≠ 7 → τ'.1 0 k = τ.1 0 k) ∧ (∀ j, j ≠ 0 → τ'.2 j = τ.2 j)
theorem FM.rf {τ : Mem} : FM τ τ := ⟨fun _ _ _ _ => rfl, fun _ _ _ => rfl, fun _ _ => rfl⟩
theorem FM.tr {τ τ' τ'' : Mem} (h : FM τ τ') (h' : FM τ' τ'') : FM τ τ'' := ⟨fun j a b c => (h'.1 j a b c).trans (h.1 j a b c), fun k a b => (h'.2.1 k a b).trans (h.2.1 k a b), fun j a => (h'.2.2 j a).trans (h.2.2 j a)⟩
theorem SY.fm {x : Nat} {τ τ' : Mem} (h : SY x τ τ') (hx : x = 0 ∨ x = 7 ∨ x = 8) : FM τ τ' := ⟨fun j a b c => h.1 j a (by omega), fun k a _ => h.2.1 k a, h.2.2⟩
theorem lays1_ok {τ : Mem} {S : FS} (h : MR τ S) (T : Nat → Option Nat) (hT : ∀ d, d < sN S → ∀ c, T d = some c → c < 36) (hx : ∀ d, d < sN S → τ.1 8 d = enc (T d)) : ∃ r, fX5_lays1 τ = some r ∧ (r.1 = nI (newOut S (setA S T)) ∧ MR r.2 (setA S T) ∧ SY 7 τ r.2) := by
  have hn := h.n
  refine loop_in (b := fX5_lays1_L4) (fun i v => v.2.2 = nI i ∧ v.2.1 = nI (cnt (fun d => sA S d != none && T d == none) i) ∧ SY 7 τ v.1 ∧ ∀ d, d < sN S → v.1.1 7 d = enc (if d < i then T d else sA S d)) (fun r => r.1 = nI (newOut S (setA S T)) ∧ MR r.2 (setA S T) ∧ SY 7 τ r.2) (sN S) ?_ ?_ 1000 0 (τ, 0, 0) (Nat.zero_le _) (by omega) ⟨rfl, rfl, SY.rf, fun d hd => by rw [if_neg (by omega)]; exact (h.2.2.2.2.1 d hd).2.2⟩
  · rintro i ⟨τi, y, z⟩ hi ⟨hz, hy, hq, hr⟩
    dsimp only at hz hy hq hr
    subst hz hy
    have g8 : inB (nI i) 8 = true := inB_nI (by omega) (by omega)
    have hn7 : τi.1 0 13 = nI (sN S) := by rw [hq.2.1 13 rfl]; exact h.2.1
    have hx4 : τi.1 8 i = enc (T i) := by rw [hq.1 8 (by decide) (by decide)]; exact hx i hi
    have hc3 : τi.1 7 i = enc (sA S i) := by rw [hr i hi, if_neg (by omega)]
    have hw : wr τi 7 (nI i) (rd τi 8 (nI i)) = putI τi 7 i (enc (T i)) := by rw [rd_nI (by omega), hx4, wr_nI (by omega)]
    refine ⟨(putI τi 7 i (enc (T i)), nI (cnt (fun d => sA S d != none && T d == none) (i + 1)), nI (i + 1)), fun ih => ?_, rfl, rfl, hq.put (by decide), fun d hd => ?_⟩
    · have b38 : ∀ z0, fX5_lays1_b38 ih τi (nI i) z0 (nI (cnt (fun d => sA S d != none && T d == none) i)) = ih (putI τi 7 i (enc (T i)), nI (cnt (fun d => sA S d != none && T d == none) i) + z0, nI (i + 1)) := fun z0 => by
        unfold fX5_lays1_b38
        simp only [gd_of g8]
        rw [stp_e, hw, nI_1]
      unfold fX5_lays1_L4
      dsimp only
      rw [hn7, if_neg (nI_ge hi (by omega))]
      simp only [gd_of g8]
      rw [rd_nI (by omega), rd_nI (by omega), hx4, hc3]
      unfold fX5_lays1_b37
      by_cases q : sA S i = none
      · rw [if_pos ((enc_none (h.at36 hi)).mpr q), b38]
        simp [cnt, q]
      · rw [if_neg (fun w => q ((enc_none (h.at36 hi)).mp w))]
        by_cases q2 : T i = none
        · rw [if_pos ((enc_none (hT i hi)).mpr q2), b38, nI_1]
          simp [cnt, q, q2]
        · rw [if_neg (fun w => q2 ((enc_none (hT i hi)).mp w)), b38]
          simp [cnt, q, q2]
    · dsimp only
      rw [putI_at]
      by_cases e : d = i
      · subst e; rw [if_pos ⟨rfl, rfl⟩, if_pos (by omega)]
      · rw [if_neg (fun w => e w.2), hr d hd]
        by_cases q : d < i
        · rw [if_pos q, if_pos (by omega)]
        · rw [if_neg q, if_neg (by omega)]
  · rintro ⟨τi, y, z⟩ ⟨hz, hy, hq, hr⟩
    dsimp only at hz hy hq hr
    subst hz hy
    have hn7 : τi.1 0 13 = nI (sN S) := by rw [hq.2.1 13 rfl]; exact h.2.1
    refine ⟨_, fun ih => by
      unfold fX5_lays1_L4
      dsimp only
      rw [hn7, if_pos (nI_le (Nat.le_refl _) (by omega))], rfl, ?_, hq⟩
    obtain ⟨h0, h1, h2, h3, h4, h5, ρ, hρ, h6, h7⟩ := h
    refine ⟨okS_setA h0 hT, hn7, ?_, ?_, fun d hd => ⟨?_, ?_, ?_⟩, fun c hc => ?_, ρ, hρ, ?_, h7.mono (fun i hi => ?_) ?_⟩
    · dsimp only; rw [hq.2.1 7 rfl]; exact h2
    · dsimp only; rw [hq.2.1 8 rfl]; exact h3
    · dsimp only; rw [hq.1 5 (by decide) (by decide)]; exact (h4 d hd).1
    · dsimp only; rw [hq.1 6 (by decide) (by decide)]; exact (h4 d hd).2.1
    · dsimp only; have := hr d hd; rw [if_pos (show d < sN S from hd)] at this; exact this
    · dsimp only; rw [hq.1 4 (by decide) (by decide)]; exact h5 c hc
    · dsimp only; rw [hq.2.1 4 rfl]; exact h6
    · dsimp only; rw [hq.1 1 (by decide) (by decide)]
    · dsimp only; rw [hq.1 2 (by decide) (by decide)]
/-- one more next is set: the row of nexts after -/
theorem nexts_put {τ' : Mem} {x i : Nat} {T : Nat → Option Nat} {v : Option Nat} (hr : ∀ d, d < i → τ'.1 x d = enc (T d)) (hv : T i = v) : ∀ d, d < i + 1 → (putI τ' x i (enc v)).1 x d = enc (T d) := fun d hd => by
  rw [putI_at]
  by_cases w : d = i
  · subst w; rw [if_pos ⟨rfl, rfl⟩, hv]
  · rw [if_neg (fun z => w z.2), hr d (by omega)]
theorem mline_24 : ∀ s, s < 24 → ∀ c, c < 36 → ((if (12 : Int32) ≤ nI s then nI c - nI c / 6 * 6 else nI c / 6) = (if (12 : Int32) ≤ nI s then nI s - 12 else nI s) / 2 ↔ lineS s c = true) := by decide +kernel
theorem strokes_ok {τ : Mem} {S : FS} (h : MR τ S) {s : Nat} (hs : s < 24) : ∃ r, fX5_strokes (nI s) τ = some r ∧ (r.1 = nI (newOut S (strokeS S s)) ∧ MR r.2 (strokeS S s) ∧ FM τ r.2) := by
  have hn := h.n
  obtain ⟨w1, w2⟩ := sway_24 s hs
  have hl := mline_24 s hs
  have key : ∀ L : Int32, L = (if (12 : Int32) ≤ nI s then nI s - 12 else nI s) / 2 → ∃ r, loopN (fX5_strokes_L36 (nI s)) 1000 (τ, L, nI (swayS s), 0) = some r ∧ (r.1 = nI (newOut S (strokeS S s)) ∧ MR r.2 (strokeS S s) ∧ FM τ r.2) := by
    intro L hL
    refine loop_in (b := fX5_strokes_L36 (nI s)) (fun i v => v.2.2.2 = nI i ∧ v.2.2.1 = nI (swayS s) ∧ v.2.1 = L ∧ SY 8 τ v.1 ∧ ∀ d, d < i → v.1.1 8 d = enc (strkS S s d)) _ (sN S) ?_ ?_ 1000 0 (τ, L, nI (swayS s), 0) (Nat.zero_le _) (by omega) ⟨rfl, rfl, rfl, SY.rf, fun d hd => by omega⟩
    · rintro i ⟨τi, x, y, z⟩ hi ⟨hz, hy, hx, hq, hr⟩
      dsimp only at hz hy hx hq hr
      subst hz hy hx
      have g8 : inB (nI i) 8 = true := inB_nI (by omega) (by omega)
      have h1 := h.sy hq (.inr rfl)
      have a7 : rd τi 7 (nI i) = enc (sA S i) := by rw [rd_nI (by omega)]; exact (h1.2.2.2.2.1 i hi).2.2
      -- the next is put
      have nx : ∀ τ1 : Mem, SY 0 τi τ1 → ∀ o, strkS S s i = o → SY 8 τ (putI τ1 8 i (enc o)) ∧ ∀ d, d < i + 1 → (putI τ1 8 i (enc o)).1 8 d = enc (strkS S s d) := fun τ1 q1 o ho =>
        ⟨(hq.sq q1).put (by decide), nexts_put (fun d hd => by rw [q1.1 8 (by decide) (by decide)]; exact hr d hd) ho⟩
      -- it stays where it is
      have b94z : strkS S s i = sA S i → ∀ ih, fX5_strokes_b94 (nI s) ih τi x (nI (swayS s)) (nI i) 0 = ih (putI τi 8 i (enc (sA S i)), x, nI (swayS s), nI (i + 1)) := fun e ih => by
        unfold fX5_strokes_b94
        rw [if_pos rfl]
        simp only [gd_of g8]
        rw [stp_e, a7, wr_nI (by omega), nI_1]
      have stay : strkS S s i = sA S i → ∃ v', (∀ ih, fX5_strokes_b94 (nI s) ih τi x (nI (swayS s)) (nI i) 0 = ih v') ∧ (v'.2.2.2 = nI (i + 1) ∧ v'.2.2.1 = nI (swayS s) ∧ v'.2.1 = x ∧ SY 8 τ v'.1 ∧ ∀ d, d < i + 1 → v'.1.1 8 d = enc (strkS S s d)) := fun e =>
        ⟨_, b94z e, rfl, rfl, rfl, (nx τi SY.rf _ e).1, (nx τi SY.rf _ e).2⟩
      -- it is in the line
      have inl : ∀ c, sA S i = some c → lineS s c = true → ∃ v', (∀ ih, fX5_strokes_b94 (nI s) ih τi x (nI (swayS s)) (nI i) 1 = ih v') ∧ (v'.2.2.2 = nI (i + 1) ∧ v'.2.2.1 = nI (swayS s) ∧ v'.2.1 = x ∧ SY 8 τ v'.1 ∧ ∀ d, d < i + 1 → v'.1.1 8 d = enc (strkS S s d)) := fun c hc ql => by
        obtain ⟨τ1, hm, q1⟩ := isMovable_ok h1 hi
        have h2 := h1.sy q1 (.inl rfl)
        rw [hc] at hm
        simp only [] at hm
        by_cases qm : (!sC S c || freeS S i c) = true
        · have e : strkS S s i = swpS (sC S) (swayS s) (farS S i c) c := by unfold strkS; rw [hc]; simp only []; rw [ql, qm]; rfl
          obtain ⟨τ2, hg, q2⟩ := goesOf_ok h2 hi hc
          have h3 := h2.sy q2 (.inl rfl)
          have hfl := farS_le S i c h.1 hi
          refine ⟨(putI τ2 8 i (enc (swpS (sC S) (swayS s) (farS S i c) c)), x, nI (swayS s), nI (i + 1)), fun ih => ?_, rfl, rfl, rfl, (nx τ2 (q1.sq q2) _ e).1, (nx τ2 (q1.sq q2) _ e).2⟩
          unfold fX5_strokes_b94
          rw [if_pos qm] at hm
          rw [if_neg (by decide), hm, bnd_s, if_neg (by decide), hg, bnd_s, mswept_ok h3 hi hc w2 (by omega), bn1_s, gd_of g8, stp_e, wr_nI (by omega), nI_1]
        · have e : strkS S s i = sA S i := by unfold strkS; rw [hc]; simp only []; rw [ql, if_neg (by simpa using qm)]
          refine ⟨(putI τ1 8 i (enc (sA S i)), x, nI (swayS s), nI (i + 1)), fun ih => ?_, rfl, rfl, rfl, (nx τ1 q1 _ e).1, (nx τ1 q1 _ e).2⟩
          unfold fX5_strokes_b94
          rw [if_neg qm] at hm
          rw [if_neg (by decide), hm, bnd_s, if_pos rfl]
          simp only [gd_of g8]
          rw [stp_e, rd_nI (by omega), (h2.2.2.2.2.1 i hi).2.2, wr_nI (by omega), nI_1]
      have body : ∀ ih, fX5_strokes_L36 (nI s) ih (τi, x, nI (swayS s), nI i) = if enc (sA S i) = -1 then fX5_strokes_b94 (nI s) ih τi x (nI (swayS s)) (nI i) 0 else if (if (12 : Int32) ≤ nI s then enc (sA S i) - enc (sA S i) / 6 * 6 else enc (sA S i) / 6) = x then fX5_strokes_b94 (nI s) ih τi x (nI (swayS s)) (nI i) 1 else fX5_strokes_b94 (nI s) ih τi x (nI (swayS s)) (nI i) 0 := fun ih => by
        unfold fX5_strokes_L36
        dsimp only
        rw [h1.2.1, if_neg (nI_ge hi (by omega))]
        simp only [gd_of g8]
        rw [a7]
        unfold fX5_strokes_b85 fX5_strokes_b93
        by_cases q : (12 : Int32) ≤ nI s
        · simp only [if_pos q]
        · simp only [if_neg q]
      cases hc : sA S i with
      | none =>
        obtain ⟨v', a1, a2⟩ := stay (by unfold strkS; rw [hc])
        exact ⟨v', fun ih => by rw [body, hc, if_pos (show enc none = -1 from rfl)]; exact a1 ih, a2⟩
      | some c =>
        have hc36 := h.at36 hi c hc
        have hne : ¬ enc (some c) = -1 := fun z => by have := (enc_none (a := some c) (fun x hx => by cases hx; exact hc36)).mp z; cases this
        have hl2 := hl c hc36
        rw [← hL] at hl2
        by_cases ql : lineS s c = true
        · obtain ⟨v', a1, a2⟩ := inl c hc ql
          exact ⟨v', fun ih => by rw [body, hc, if_neg hne, show enc (some c) = nI c from rfl, if_pos (hl2.mpr ql)]; exact a1 ih, a2⟩
        · obtain ⟨v', a1, a2⟩ := stay (by unfold strkS; rw [hc]; simp [ql])
          exact ⟨v', fun ih => by rw [body, hc, if_neg hne, show enc (some c) = nI c from rfl, if_neg (fun z => ql (hl2.mp z))]; exact a1 ih, a2⟩
    · rintro ⟨τi, x, y, z⟩ ⟨hz, hy, hx, hq, hr⟩
      dsimp only at hz hy hx hq hr
      subst hz hy hx
      have h1 := h.sy hq (.inr rfl)
      obtain ⟨r, e1, e2, e3, e4⟩ := lays1_ok h1 (strkS S s) (fun d hd c hc => strkS_lt h.1 hd hc) hr
      refine ⟨r, fun ih => ?_, e2, e3, (hq.fm (by omega)).tr (e4.fm (by omega))⟩
      unfold fX5_strokes_L36
      dsimp only
      rw [h1.2.1, if_pos (nI_le (Nat.le_refl _) (by omega)), e1]
      rfl
  unfold fX5_strokes fX5_strokes_b14
  by_cases q : (12 : Int32) ≤ nI s
  · simp only [if_pos q] at w1 key ⊢
    rw [w1]; exact key _ rfl
  · simp only [if_neg q] at w1 key ⊢
    rw [w1]; exact key _ rfl
theorem passes_ok {τ : Mem} {S : FS} (h : MR τ S) (hw : sW S < 1100) : ∃ r, fX5_passes τ = some r ∧ (r.1 = nI (newOut S (weekS S)) ∧ MR r.2 (weekS S) ∧ FM τ r.2) := by
  have hn := h.n
  unfold fX5_passes
  refine loop_in (b := fX5_passes_L2) (fun i v => v.2 = nI i ∧ SY 8 τ v.1 ∧ ∀ d, d < i → v.1.1 8 d = enc (wkS S d)) _ (sN S) ?_ ?_ 1000 0 (τ, 0) (Nat.zero_le _) (by omega) ⟨rfl, SY.rf, fun d hd => by omega⟩
  · rintro i ⟨τi, z⟩ hi ⟨hz, hq, hr⟩
    dsimp only at hz hq hr
    subst hz
    have g8 : inB (nI i) 8 = true := inB_nI (by omega) (by omega)
    have h1 := h.sy hq (.inr rfl)
    have nx : ∀ τ1 : Mem, SY 0 τi τ1 → ∀ o, wkS S i = o → SY 8 τ (putI τ1 8 i (enc o)) ∧ ∀ d, d < i + 1 → (putI τ1 8 i (enc o)).1 8 d = enc (wkS S d) := fun τ1 q1 o ho =>
      ⟨(hq.sq q1).put (by decide), nexts_put (fun d hd => by rw [q1.1 8 (by decide) (by decide)]; exact hr d hd) ho⟩
    have b27z : ∀ (τ1 : Mem) (ih : Mem × Int32 → Option (Int32 × Mem)), MR τ1 S → fX5_passes_b27 ih τ1 (nI i) 0 = ih (putI τ1 8 i (enc (sA S i)), nI (i + 1)) := fun τ1 ih h2 => by
      unfold fX5_passes_b27
      rw [if_pos rfl]
      simp only [gd_of g8]
      rw [stp_e, rd_nI (by omega), (h2.2.2.2.2.1 i hi).2.2, wr_nI (by omega), nI_1]
    obtain ⟨τ1, hm, q1⟩ := isMovable_ok h1 hi
    have h2 := h1.sy q1 (.inl rfl)
    have body : ∀ ih, fX5_passes_L2 ih (τi, nI i) = bnd (fX5_isMovable (nI i) τi) fun r3 σ3 => if r3 = 0 then fX5_passes_b27 ih σ3 (nI i) 0 else bnd (fX5_blownOf (nI i) σ3) fun r12 σ12 => fX5_passes_b27 ih σ12 (nI i) r12 := fun ih => by
      unfold fX5_passes_L2
      dsimp only
      rw [h1.2.1, if_neg (nI_ge hi (by omega))]
    have stay : wkS S i = sA S i → fX5_isMovable (nI i) τi = some (0, τ1) → ∃ v', (∀ ih, fX5_passes_L2 ih (τi, nI i) = ih v') ∧ (v'.2 = nI (i + 1) ∧ SY 8 τ v'.1 ∧ ∀ d, d < i + 1 → v'.1.1 8 d = enc (wkS S d)) := fun e hm => by
      refine ⟨(putI τ1 8 i (enc (sA S i)), nI (i + 1)), fun ih => ?_, rfl, (nx τ1 q1 _ e).1, (nx τ1 q1 _ e).2⟩
      rw [body, hm, bnd_s, if_pos rfl]
      exact b27z τ1 ih h2
    cases hc : sA S i with
    | none =>
      rw [hc] at hm
      exact stay (by unfold wkS; rw [hc]) hm
    | some c =>
      have hc36 := h.at36 hi c hc
      rw [hc] at hm
      simp only [] at hm
      by_cases qm : (!sC S c || freeS S i c) = true
      · have e : wkS S i = stepS c (wayS S i c) := by unfold wkS; rw [hc]; simp only []; rw [qm]; rfl
        rw [if_pos qm] at hm
        obtain ⟨τ2, hg, q2⟩ := blownOf_ok h2 hi hc
        have h3 := h2.sy q2 (.inl rfl)
        have hwl := wayS_lt h.1 hi (c := c)
        refine ⟨(putI τ2 8 i (enc (stepS c (wayS S i c))), nI (i + 1)), fun ih => ?_, rfl, (nx τ2 (q1.sq q2) _ e).1, (nx τ2 (q1.sq q2) _ e).2⟩
        rw [body, hm, bnd_s, if_neg (by decide), hg, bnd_s]
        by_cases q0 : wayS S i c = 0
        · rw [q0, show nI 0 = 0 from rfl, b27z τ2 ih h3, hc]
          rfl
        · unfold fX5_passes_b27
          rw [if_eq_lit (L := 0) (k := 0) rfl (by omega) (by decide), if_neg q0]
          simp only [gd_of g8]
          rw [rd_nI (by omega), (h3.2.2.2.2.1 i hi).2.2, hc, show enc (some c) = nI c from rfl, beside_ok τ2 hc36 hwl, bn1_s, stp_e, wr_nI (by omega), nI_1]
      · rw [if_neg qm] at hm
        exact stay (by unfold wkS; rw [hc]; simp only []; rw [if_neg qm]) hm
  · rintro ⟨τi, z⟩ ⟨hz, hq, hr⟩
    dsimp only at hz hq hr
    subst hz
    have h1 := h.sy hq (.inr rfl)
    have h4 : τi.1 0 7 + 1 = nI (sW S + 1) := by rw [h1.2.2.1, nI_1]
    generalize hτ : putI τi 0 7 (nI (sW S + 1)) = τ1
    have ht0 : ∀ j, j ≠ 0 → τ1.1 j = τi.1 j := fun j hj => by rw [← hτ, putI_row τi 0 7 _ hj]
    have ht2 : τ1.2 = τi.2 := by rw [← hτ]; rfl
    have htb : ∀ k, τ1.1 0 k = if k = 7 then nI (sW S + 1) else τi.1 0 k := fun k => by
      rw [← hτ, putI_at]; by_cases e : k = 7 <;> simp [e]
    have ht : MR τ1 (setW S (sW S + 1)) := by
      obtain ⟨h0, h1, h2, h3, h4, h5, ρ, hρ, h6, h7⟩ := h1
      refine ⟨⟨h0.1, h0.2.1, hw, h0.2.2.2⟩, by rw [htb]; exact h1, by rw [htb]; rfl, by rw [htb]; exact h3, fun d hd => ?_, fun c hc => by rw [ht0 4 (by decide)]; exact h5 c hc, ρ, hρ, by rw [htb]; exact h6, h7.mono (fun i hi => by rw [ht0 1 (by decide)]) (by rw [ht0 2 (by decide)])⟩
      rw [ht0 5 (by decide), ht0 6 (by decide), ht0 7 (by decide)]
      exact h4 d hd
    obtain ⟨r, e1, e2, e3, e4⟩ := lays1_ok ht (wkS S) (fun d hd c hc => wkS_lt h.1 hd hc) (fun d hd => by rw [ht0 8 (by decide)]; exact hr d hd)
    refine ⟨r, fun ih => ?_, e2, e3, ((hq.fm (by omega)).tr ⟨fun j hj _ _ => ht0 j hj, fun k _ hk => by rw [htb, if_neg hk], fun j hj => by rw [ht2]⟩).tr (e4.fm (by omega))⟩
    unfold fX5_passes_L2
    dsimp only
    rw [h1.2.1, if_pos (nI_le (Nat.le_refl _) (by omega))]
    unfold fX5_passes_b63
    rw [h4, hτ, stp_e, e1]
    rfl
