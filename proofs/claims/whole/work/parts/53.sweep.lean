/-! ===== sweep, sweeps ===== -/
def vld (g : Nat → Int32) : Nat → Bool
  | 0 => true
  | n + 1 => vld g n && decide (0 ≤ (g n).toInt ∧ (g n).toInt ≤ 23)
theorem vld_bad {g : Nat → Int32} {i : Nat} (h : ¬ (0 ≤ (g i).toInt ∧ (g i).toInt ≤ 23)) : ∀ n, i < n → vld g n = false
  | n + 1, hi => by
    have e : vld g (n + 1) = (vld g n && decide (0 ≤ (g n).toInt ∧ (g n).toInt ≤ 23)) := rfl
    rw [e]
    by_cases z : i = n
    · subst z; rw [decide_eq_false h, Bool.and_false]
    · rw [vld_bad h n (by omega), Bool.false_and]
theorem vld_all {g : Nat → Int32} : ∀ n, vld g n = true → ∀ i, i < n → 0 ≤ (g i).toInt ∧ (g i).toInt ≤ 23
  | n + 1, h, i, hi => by
    have e : vld g (n + 1) = (vld g n && decide (0 ≤ (g n).toInt ∧ (g n).toInt ≤ 23)) := rfl
    rw [e, Bool.and_eq_true] at h
    by_cases z : i = n
    · subst z; exact of_decide_eq_true h.2
    · exact vld_all n h.1 i (by omega)
theorem refused_ok {σ : Mem} {b n : Nat} {g : Nat → Int32} (hn : n ≤ 40) (h1 : fX2_isMissing b σ = some 0) (h2 : σ.1 b 2 = nI n) (hg : ∀ i, i < n → σ.1 (b + 1) i = g i) : fX4_strokesRefused b σ = some (if vld g n then 0 else -2) := by
  unfold fX4_strokesRefused
  rw [h1, bn1_s, if_pos rfl]
  refine loop_ex (b := fX4_strokesRefused_L12 b σ) (fun i => nI i) (some (if vld g n then 0 else -2)) n (fun i => vld g i = true) (fun i hi hP => ?_) (fun hP ih => ?_) 1000 0 (Nat.zero_le _) (by omega) rfl
  · have body : ∀ ih, fX4_strokesRefused_L12 b σ ih (nI i) = if 0 ≤ (g i).toInt ∧ (g i).toInt ≤ 23 then ih (nI (i + 1)) else some (-2) := fun ih => by
      unfold fX4_strokesRefused_L12
      dsimp only
      rw [h2, if_neg (nI_ge hi (by omega)), gd_of (inB_nI (by omega) (by decide)), rd_nI (by omega), hg i hi, isStroke4, bn1_s, nI_1]
      by_cases q : 0 ≤ (g i).toInt ∧ (g i).toInt ≤ 23
      · rw [if_pos q, if_neg (show ¬ (1 : Int32) = 0 by decide), if_pos q]
      · rw [if_neg q, if_pos rfl, if_neg q]
    by_cases q : 0 ≤ (g i).toInt ∧ (g i).toInt ≤ 23
    · left
      refine ⟨fun ih => by rw [body, if_pos q], ?_⟩
      have e : vld g (i + 1) = (vld g i && decide (0 ≤ (g i).toInt ∧ (g i).toInt ≤ 23)) := rfl
      rw [e, hP, decide_eq_true q]; rfl
    · right
      exact fun ih => by rw [body, if_neg q, vld_bad q n hi]; rfl
  · unfold fX4_strokesRefused_L12
    dsimp only
    rw [h2, if_pos (nI_le (Nat.le_refl _) (by omega)), hP]
    rfl
theorem mbad_ok {τ : Mem} {k n : Nat} {g : Nat → Int32} (hk : k < 4) (hn : n ≤ 40) (h1 : τ.1 13 k = 1) (h2 : τ.1 15 k = nI n) (hg : ∀ i, i < n → τ.1 16 (40 * k + i) = g i) : fX5_sweepBad (nI k) τ = some (if vld g n then 0 else -2) := by
  have gk : inB (nI k) 4 = true := inB_nI hk (by decide)
  unfold fX5_sweepBad
  rw [gd_of gk, rd_nI (by omega), h1, if_neg (by decide)]
  refine loop_ex (b := fX5_sweepBad_L14 (nI k) τ) (fun i => nI i) (some (if vld g n then 0 else -2)) n (fun i => vld g i = true) (fun i hi hP => ?_) (fun hP ih => ?_) 1000 0 (Nat.zero_le _) (by omega) rfl
  · have body : ∀ ih, fX5_sweepBad_L14 (nI k) τ ih (nI i) = if 0 ≤ (g i).toInt ∧ (g i).toInt ≤ 23 then ih (nI (i + 1)) else some (-2) := fun ih => by
      unfold fX5_sweepBad_L14
      dsimp only
      rw [gd_of gk, rd_nI (σ := τ) (j := 15) (k := k) (by omega), h2, if_neg (nI_ge hi (by omega)), m40, nI_add, gd_of (inB_nI (by omega) (by decide)), rd_nI (by omega), hg i hi, isStroke5, bn1_s, nI_1]
      by_cases q : 0 ≤ (g i).toInt ∧ (g i).toInt ≤ 23
      · rw [if_pos q, if_neg (show ¬ (1 : Int32) = 0 by decide), if_pos q]
      · rw [if_neg q, if_pos rfl, if_neg q]
    by_cases q : 0 ≤ (g i).toInt ∧ (g i).toInt ≤ 23
    · left
      refine ⟨fun ih => by rw [body, if_pos q], ?_⟩
      have e : vld g (i + 1) = (vld g i && decide (0 ≤ (g i).toInt ∧ (g i).toInt ≤ 23)) := rfl
      rw [e, hP, decide_eq_true q]; rfl
    · right
      exact fun ih => by rw [body, if_neg q, vld_bad q n hi]; rfl
  · unfold fX5_sweepBad_L14
    dsimp only
    rw [gd_of gk, rd_nI (by omega), h2, if_pos (nI_le (Nat.le_refl _) (by omega)), hP]
    rfl
def sws (S : FS) (f : Nat → Nat) : Nat → FS
  | 0 => S
  | i + 1 => strokeS (sws S f i) (f i)
def swo (S : FS) (f : Nat → Nat) : Nat → Nat
  | 0 => 0
  | i + 1 => swo S f i + newOut (sws S f i) (strokeS (sws S f i) (f i))
theorem sws_same (S : FS) (f : Nat → Nat) : ∀ i, sN (sws S f i) = sN S ∧ sK (sws S f i) = sK S ∧ sW (sws S f i) = sW S ∧ sV (sws S f i) = sV S
  | 0 => ⟨rfl, rfl, rfl, rfl⟩
  | i + 1 => sws_same S f i
theorem brushAll_ok {σ : Mem} {b k n : Nat} {S : FS} {f : Nat → Nat} (hb : isFl b) (h : CR σ b S) (hk : k < 4) (hn : n ≤ 40) (h2 : σ.1 (32 + 2 * k) 2 = nI n) (hf : ∀ i, i < n → σ.1 (33 + 2 * k) i = nI (f i) ∧ f i < 24) : ∃ r, fX4_brushAll b (32 + 2 * k) σ = some r ∧ (r.1 = nI (swo S f n) ∧ CR r.2 b (sws S f n) ∧ FR b σ r.2) := by
  obtain ⟨s1, s2⟩ := sh_scr k hk
  have nb : ∀ i, i < 5 → 32 + 2 * k ≠ b + i ∧ 33 + 2 * k ≠ b + i := fun i hi => by rcases hb with rfl | rfl | rfl | rfl <;> omega
  unfold fX4_brushAll
  refine loop_in (b := fX4_brushAll_L4 b (32 + 2 * k)) (fun i v => v.2.2 = nI i ∧ v.2.1 = nI (swo S f i) ∧ CR v.1 b (sws S f i) ∧ FR b σ v.1) _ n ?_ ?_ 1000 0 (σ, 0, 0) (Nat.zero_le _) (by omega) ⟨rfl, rfl, h, FR.rf⟩
  · rintro i ⟨σi, x, y⟩ hi ⟨hy, hx, hc, hr⟩
    dsimp only at hy hx hc hr
    subst hy hx
    obtain ⟨e1, e2⟩ := hf i hi
    obtain ⟨r, g1, g2, g3, g4⟩ := brush_ok hb hc e2
    have q2 : σi.1 (32 + 2 * k) = σ.1 (32 + 2 * k) := hr.1 _ s1 (fun j hj => (nb j hj).1)
    have q3 : σi.1 (33 + 2 * k) = σ.1 (33 + 2 * k) := hr.1 _ s2 (fun j hj => (nb j hj).2)
    refine ⟨(r.2, nI (swo S f (i + 1)), nI (i + 1)), fun ih => ?_, rfl, rfl, g3, hr.tr g4⟩
    unfold fX4_brushAll_L4
    dsimp only
    rw [q2, h2, if_neg (nI_ge hi (by omega)), gd_of (inB_nI (by omega) (by decide)), rd_nI (by omega), show 32 + 2 * k + 1 = 33 + 2 * k by omega, q3, e1, g1, nI_1]
    show ih (r.2, nI (swo S f i) + r.1, nI (i + 1)) = _
    rw [g2, nI_add]
    rfl
  · rintro ⟨σi, x, y⟩ ⟨hy, hx, hc, hr⟩
    dsimp only at hy hx hc hr
    subst hy hx
    have q2 : σi.1 (32 + 2 * k) = σ.1 (32 + 2 * k) := hr.1 _ s1 (fun j hj => (nb j hj).1)
    refine ⟨(nI (swo S f n), σi), fun ih => ?_, rfl, hc, hr⟩
    unfold fX4_brushAll_L4
    dsimp only
    rw [q2, h2, if_pos (nI_le (Nat.le_refl _) (by omega))]
theorem sweptBy_ok {τ : Mem} {k n : Nat} {S : FS} {f : Nat → Nat} (h : MR τ S) (hk : k < 4) (hn : n ≤ 40) (h2 : τ.1 15 k = nI n) (hf : ∀ i, i < n → τ.1 16 (40 * k + i) = nI (f i) ∧ f i < 24) : ∃ r, fX5_sweptBy (nI k) τ = some r ∧ (r.1 = nI (swo S f n) ∧ MR r.2 (sws S f n) ∧ FM τ r.2) := by
  have gk : inB (nI k) 4 = true := inB_nI hk (by decide)
  unfold fX5_sweptBy
  refine loop_in (b := fX5_sweptBy_L4 (nI k)) (fun i v => v.2.2 = nI i ∧ v.2.1 = nI (swo S f i) ∧ MR v.1 (sws S f i) ∧ FM τ v.1) _ n ?_ ?_ 1000 0 (τ, 0, 0) (Nat.zero_le _) (by omega) ⟨rfl, rfl, h, FM.rf⟩
  · rintro i ⟨τi, x, y⟩ hi ⟨hy, hx, hc, hr⟩
    dsimp only at hy hx hc hr
    subst hy hx
    obtain ⟨e1, e2⟩ := hf i hi
    obtain ⟨r, g1, g2, g3, g4⟩ := strokes_ok hc e2
    have q15 : rd τi 15 (nI k) = nI n := by rw [rd_nI (by omega), hr.1 15 (by decide) (by decide) (by decide)]; exact h2
    have q16 : rd τi 16 (nI (40 * k + i)) = nI (f i) := by rw [rd_nI (by omega), hr.1 16 (by decide) (by decide) (by decide)]; exact e1
    refine ⟨(r.2, nI (swo S f (i + 1)), nI (i + 1)), fun ih => ?_, rfl, rfl, g3, hr.tr g4⟩
    unfold fX5_sweptBy_L4
    dsimp only
    rw [gd_of gk, q15, if_neg (nI_ge hi (by omega)), m40, nI_add, gd_of (inB_nI (by omega) (by decide)), q16, g1, nI_1]
    show ih (r.2, nI (swo S f i) + r.1, nI (i + 1)) = _
    rw [g2, nI_add]
    rfl
  · rintro ⟨τi, x, y⟩ ⟨hy, hx, hc, hr⟩
    dsimp only at hy hx hc hr
    subst hy hx
    have q15 : rd τi 15 (nI k) = nI n := by rw [rd_nI (by omega), hr.1 15 (by decide) (by decide) (by decide)]; exact h2
    refine ⟨(nI (swo S f n), τi), fun ih => ?_, rfl, hc, hr⟩
    unfold fX5_sweptBy_L4
    dsimp only
    rw [gd_of gk, q15, if_pos (nI_le (Nat.le_refl _) (by omega))]
/-- the strokes of a sheet that tells such -/
def stk (g : Nat → Int32) (i : Nat) : Nat := (g i).toInt.toNat
theorem stk_ok {g : Nat → Int32} {n : Nat} (h : vld g n = true) {i : Nat} (hi : i < n) : g i = nI (stk g i) ∧ stk g i < 24 := by
  have := vld_all n h i hi
  unfold stk
  refine ⟨Int32.toInt_inj.mp ?_, by omega⟩
  rw [nI_toInt (by omega)]
  omega
theorem st_sweeps : St_sweeps Rel := by
  rintro a1 σ τ ⟨S, h⟩
  dsimp only
  have hc := h.c; have hm := h.m
  unfold fX4_sweeps fX5_sweeps
  rw [isSheet4, isSheet5, bn1_s, bn1_s]
  by_cases q1 : 0 ≤ a1.toInt ∧ a1.toInt ≤ 3
  · obtain ⟨k, hk, _, rfl⟩ := of_rng q1
    have hk : k < 4 := by omega
    have g : inB (nI k) 4 = true := inB_nI hk (by decide)
    rw [if_pos q1, if_neg (show ¬ (1 : Int32) = 0 by decide), if_neg (show ¬ (1 : Int32) = 0 by decide)]
    simp only [gd_of g, clampN hk]
    rcases h.sh hk with hmiss | ⟨s, n, b1, b2, b3, b4, b5, b6, b7, b8⟩
    · refine ⟨-11, σ, τ, ?_, ?_, h.rel⟩
      · unfold fX4_strokesRefused
        rw [miss4 hmiss, bn1_s, if_neg (by decide), bn1_s, if_neg (by decide)]
      · unfold fX5_sweepBad
        rw [gd_of g, rd_nI (by omega), hmiss.2, if_pos rfl, bn1_s, if_neg (by decide)]
    · have e33 : 32 + 2 * k + 1 = 33 + 2 * k := by omega
      rw [refused_ok (g := fun i => τ.1 16 (40 * k + i)) b2 (there4 b1 b3) b6 (fun i hi => by rw [e33]; exact b8 i hi), mbad_ok (g := fun i => τ.1 16 (40 * k + i)) hk b2 b4 b7 (fun i hi => rfl), bn1_s, bn1_s]
      by_cases v : vld (fun i => τ.1 16 (40 * k + i)) n = true
      · rw [if_pos v, if_pos rfl, if_pos rfl]
        obtain ⟨r, e1, e2, e3, e4⟩ := brushAll_ok (f := stk (fun i => τ.1 16 (40 * k + i))) fl40 hc hk b2 b6 (fun i hi => by rw [b8 i hi]; exact stk_ok v hi)
        obtain ⟨r', f1, f2, f3, f4⟩ := sweptBy_ok (f := stk (fun i => τ.1 16 (40 * k + i))) hm hk b2 b7 (fun i hi => stk_ok v hi)
        obtain ⟨x1, x2, x3, x4⟩ := sws_same S (stk (fun i => τ.1 16 (40 * k + i))) n
        refine ⟨r.1, r.2, r'.2, by rw [e1]; rfl, ?_, h.st2 e3 f3 (e4.pc (by omega)) f4.pm x1 x2 (by rw [x3]; exact h.w) x4⟩
        rw [f1, e2, ← f2]; rfl
      · rw [if_neg v, if_neg (by decide), if_neg (by decide)]
        exact ⟨_, _, _, rfl, rfl, h.rel⟩
  · rw [if_neg q1, if_pos rfl, if_pos rfl]
    exact ⟨-2, σ, τ, rfl, rfl, h.rel⟩
theorem st_sweep : St_sweep Rel := by
  intro a1 a2
  refine simI_st (fun σ τ S h => ?_)
  have hc := h.c; have hm := h.m; have hn8 := hc.n
  have idle : ∀ r, fX4_sweep a1 a2 σ = some (r, σ) → fX5_sweep a1 a2 τ = some (r, τ) → ∃ r σ' τ', fX4_sweep a1 a2 σ = some (r, σ') ∧ fX5_sweep a1 a2 τ = some (r, τ') ∧ CR σ' 40 S ∧ MR τ' S ∧ PC σ σ' ∧ PM τ τ' := fun r h1 h2 => ⟨r, σ, τ, h1, h2, hc, hm, PC.rf, PM.rf⟩
  by_cases q1 : 0 ≤ a1.toInt ∧ a1.toInt ≤ 3
  · obtain ⟨k, hk, _, rfl⟩ := of_rng q1
    have hk : k < 4 := by omega
    have g : inB (nI k) 4 = true := inB_nI hk (by decide)
    by_cases q2 : (0 ≤ a2.toInt ∧ a2.toInt ≤ 3) ∨ (10 ≤ a2.toInt ∧ a2.toInt < 10 + (sN S : Int))
    · have hwhat : fX4_isSweepWhat a2 σ = some 1 := by
        unfold fX4_isSweepWhat
        rw [within_I σ a2 0 3 (p := 0) (q := 3) rfl rfl, bn1_s]
        by_cases w : 0 ≤ a2.toInt ∧ a2.toInt ≤ 3
        · rw [if_pos w, if_neg (by decide)]
        · rw [if_neg w, if_pos rfl, ask4 hc, if_pos (by omega)]
      have hC : fX4_sweep (nI k) a2 σ = bn1 (fX4_strokesRefused (32 + 2 * k) σ) fun r4 => if r4 = 0 then (bn1 (fX0_become 52 40 σ) fun σ5 => bnd (fX4_brushAll 52 (32 + 2 * k) σ5) fun r7 σ7 => if a2 = 0 then some (r7, σ7) else if 10 ≤ a2 then gd (inB (a2 - 10) 8) (some (rd σ7 55 (a2 - 10), σ7)) else bn1 (fX4_measure 52 a2 σ7) fun r9 => some (r9, σ7)) else some (r4, σ) := by
        unfold fX4_sweep
        rw [isSheet4, bn1_s, if_pos q1, if_neg (show ¬ (1 : Int32) = 0 by decide), hwhat, bn1_s, if_neg (show ¬ (1 : Int32) = 0 by decide)]
        simp only [gd_of g, clampN hk]
      have hM : fX5_sweep (nI k) a2 τ = fX5_sweep_b47 (nI k) a2 τ := by
        unfold fX5_sweep
        rw [isSheet5, bn1_s, if_pos q1, if_neg (show ¬ (1 : Int32) = 0 by decide), in_I τ a2 0 3 (p := 0) (q := 3) rfl rfl, bn1_s]
        by_cases w : 0 ≤ a2.toInt ∧ a2.toInt ≤ 3
        · rw [if_pos w, if_neg (by decide)]
        · rw [if_neg w, if_pos rfl, ask5 hm, if_pos (by omega)]
      unfold fX5_sweep_b47 at hM
      rcases h.sh hk with hmiss | ⟨s, n, b1, b2, b3, b4, b5, b6, b7, b8⟩
      · refine idle (-11) ?_ ?_
        · rw [hC]
          unfold fX4_strokesRefused
          rw [miss4 hmiss, bn1_s, if_neg (by decide), bn1_s, if_neg (by decide)]
        · rw [hM]
          unfold fX5_sweepBad
          rw [gd_of g, rd_nI (by omega), hmiss.2, if_pos rfl, bn1_s, if_neg (by decide)]
      · have e33 : 32 + 2 * k + 1 = 33 + 2 * k := by omega
        rw [refused_ok (g := fun i => τ.1 16 (40 * k + i)) b2 (there4 b1 b3) b6 (fun i hi => by rw [e33]; exact b8 i hi), bn1_s] at hC
        rw [mbad_ok (g := fun i => τ.1 16 (40 * k + i)) hk b2 b4 b7 (fun i hi => rfl), bn1_s] at hM
        by_cases v : vld (fun i => τ.1 16 (40 * k + i)) n = true
        · rw [if_pos v, if_pos rfl] at hC hM
          obtain ⟨F, e0, c52, q⟩ := become_ok fl52 fl40 (by decide) hc
          obtain ⟨s1, s2⟩ := sh_scr k hk
          have fr2 : F.1 (32 + 2 * k) = σ.1 (32 + 2 * k) := q.1 _ s1 (fun j hj => by omega)
          have fr3 : F.1 (33 + 2 * k) = σ.1 (33 + 2 * k) := q.1 _ s2 (fun j hj => by omega)
          obtain ⟨r, e1, e2, e3, e4⟩ := brushAll_ok (f := stk (fun i => τ.1 16 (40 * k + i))) fl52 c52 hk b2 (by rw [fr2]; exact b6) (fun i hi => by rw [fr3, b8 i hi]; exact stk_ok v hi)
          obtain ⟨τ1, g1, m1, l1, p1⟩ := mas hm
          have t15 : τ1.1 15 = τ.1 15 := p1.1 15 (by decide) (by decide) (by decide) (by decide) (by decide) (by decide) (by decide)
          have t16 : τ1.1 16 = τ.1 16 := p1.1 16 (by decide) (by decide) (by decide) (by decide) (by decide) (by decide) (by decide)
          obtain ⟨r', f1, f2, f3, f4⟩ := sweptBy_ok (f := stk (fun i => τ.1 16 (40 * k + i))) m1 hk b2 (by rw [t15]; exact b7) (fun i hi => by rw [t16]; exact stk_ok v hi)
          obtain ⟨τ3, g3, m3, l3, p3⟩ := mbk hm (l1.fm f4)
          generalize hT : sws S (stk (fun i => τ.1 16 (40 * k + i))) n = T at e3 f3
          have hTN : sN T = sN S := by rw [← hT]; exact (sws_same S _ n).1
          have c40 : CR r.2 40 S := hc.fr fl40 fl52 (by decide) (q.tr e4)
          have pc : PC σ r.2 := (q.tr e4).pc (by omega)
          rw [e0, bn1_s, e1] at hC
          rw [g1, bn1_s, f1] at hM
          have hC : fX4_sweep (nI k) a2 σ = if a2 = 0 then some (r.1, r.2) else if 10 ≤ a2 then gd (inB (a2 - 10) 8) (some (rd r.2 55 (a2 - 10), r.2)) else bn1 (fX4_measure 52 a2 r.2) fun r9 => some (r9, r.2) := hC
          have hM : fX5_sweep (nI k) a2 τ = if a2 = 0 then (bn1 (fX5_laysBack r'.2) fun σ17 => some (r'.1, σ17)) else if a2 = 1 then (bn1 (fX5_togethers r'.2) fun r14 => bn1 (fX5_laysBack r'.2) fun σ15 => some (r14, σ15)) else if a2 = 2 then (bn1 (fX5_heaps r'.2) fun r11 => bn1 (fX5_laysBack r'.2) fun σ12 => some (r11, σ12)) else if a2 = 3 then (bn1 (fX5_spread r'.2) fun r8 => bn1 (fX5_laysBack r'.2) fun σ9 => some (r8, σ9)) else gd (inB (a2 - 10) 8) (bn1 (fX5_laysBack r'.2) fun σ6 => some (rd r'.2 7 (a2 - 10), σ6)) := hM
          rw [g3] at hM
          simp only [bn1_s] at hM
          unfold fX4_measure at hC
          have out : ∀ x, fX4_sweep (nI k) a2 σ = some (x, r.2) → fX5_sweep (nI k) a2 τ = some (x, τ3) → ∃ r σ' τ', fX4_sweep (nI k) a2 σ = some (r, σ') ∧ fX5_sweep (nI k) a2 τ = some (r, τ') ∧ CR σ' 40 S ∧ MR τ' S ∧ PC σ σ' ∧ PM τ τ' := fun x h1 h2 => ⟨x, _, _, h1, h2, c40, m3, pc, p3⟩
          rcases q2 with q2 | q2
          · obtain ⟨w, hw, _, rfl⟩ := of_rng q2
            rcases (show w = 0 ∨ w = 1 ∨ w = 2 ∨ w = 3 by omega) with rfl | rfl | rfl | rfl
            · rw [if_pos (by decide)] at hC hM
              exact out _ hC (by rw [hM, e2, ← f2])
            · rw [if_neg (by decide), if_neg (by decide), if_pos (by decide), together_ok e3] at hC
              rw [if_neg (by decide), if_pos (by decide), mtogethers_ok f3] at hM
              exact out _ hC hM
            · rw [if_neg (by decide), if_neg (by decide), if_neg (by decide), if_pos (by decide), heaps_ok e3] at hC
              rw [if_neg (by decide), if_neg (by decide), if_pos (by decide), mheaps_ok f3] at hM
              exact out _ hC hM
            · rw [if_neg (by decide), if_neg (by decide), if_neg (by decide), if_neg (by decide), spread_ok e3] at hC
              rw [if_neg (by decide), if_neg (by decide), if_neg (by decide), if_pos (by decide), mspread_ok f3] at hM
              exact out _ hC hM
          · obtain ⟨d, hd, ea, e⟩ := of_ask q2 hn8
            have ne : ∀ j, j < 10 → ¬ a2 = nI j := fun j hj z => by rw [z, nI_toInt (by omega)] at q2; omega
            have gd8 : inB (nI d) 8 = true := inB_nI (by omega) (by decide)
            have i10 : (10 : Int32) ≤ a2 := Int32.le_iff_toInt_le.mpr (by rw [show (10 : Int32).toInt = 10 from rfl]; exact q2.1)
            rw [if_neg (show ¬ a2 = 0 from ne 0 (by omega)), if_pos i10, e, gd_of gd8, rd_nI (by omega), (e3.2.2.2.2.1 d (by omega)).2.2] at hC
            rw [if_neg (show ¬ a2 = 0 from ne 0 (by omega)), if_neg (show ¬ a2 = 1 from ne 1 (by omega)), if_neg (show ¬ a2 = 2 from ne 2 (by omega)), if_neg (show ¬ a2 = 3 from ne 3 (by omega)), e, gd_of gd8, rd_nI (by omega), (f3.2.2.2.2.1 d (by omega)).2.2] at hM
            exact out _ hC hM
        · rw [if_neg v, if_neg (by decide)] at hC hM
          exact idle _ hC hM
    · refine idle (-2) ?_ ?_
      · have hwhat : fX4_isSweepWhat a2 σ = some 0 := by
          unfold fX4_isSweepWhat
          rw [within_I σ a2 0 3 (p := 0) (q := 3) rfl rfl, bn1_s, if_neg (fun w => q2 (Or.inl w)), if_pos rfl, ask4 hc, if_neg (fun w => q2 (Or.inr w))]
        unfold fX4_sweep
        rw [isSheet4, bn1_s, if_pos q1, if_neg (show ¬ (1 : Int32) = 0 by decide), hwhat, bn1_s, if_pos rfl]
      · unfold fX5_sweep
        rw [isSheet5, bn1_s, if_pos q1, if_neg (show ¬ (1 : Int32) = 0 by decide), in_I τ a2 0 3 (p := 0) (q := 3) rfl rfl, bn1_s, if_neg (fun w => q2 (Or.inl w)), if_pos rfl, ask5 hm, if_neg (fun w => q2 (Or.inr w))]
  · refine idle (-2) ?_ ?_
    · unfold fX4_sweep
      rw [isSheet4, bn1_s, if_neg q1, if_pos rfl]
    · unfold fX5_sweep
      rw [isSheet5, bn1_s, if_neg q1, if_pos rfl]
