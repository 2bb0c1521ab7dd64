/-! ===== the calls: floors and dust ===== -/
theorem hasO {σ : Mem} {b : Nat} {S : FS} (h : CR σ b S) {a : Int32} (ha : ¬ (0 ≤ a.toInt ∧ a.toInt < (sN S : Int))) : fX0_has b a σ = some 0 := by rw [has_ok h, if_neg ha]
theorem hasI {σ : Mem} {b : Nat} {S : FS} (h : CR σ b S) {a : Int32} (ha : 0 ≤ a.toInt ∧ a.toInt < (sN S : Int)) : fX0_has b a σ = some 1 := by rw [has_ok h, if_pos ha]
theorem st_stroke : St_stroke Rel := by
  rintro a1 σ τ ⟨S, h⟩
  dsimp only
  unfold fX4_stroke fX5_stroke
  rw [isStroke4, isStroke5, bn1_s, bn1_s]
  by_cases q : 0 ≤ a1.toInt ∧ a1.toInt ≤ 23
  · obtain ⟨s, hs, _, rfl⟩ := of_rng q
    obtain ⟨r, e1, e2, e3, e4⟩ := brush_ok fl40 h.c (s := s) (by omega)
    obtain ⟨r', f1, f2, f3, f4⟩ := strokes_ok h.m (s := s) (by omega)
    refine ⟨nI (newOut S (strokeS S s)), r.2, r'.2, ?_, ?_, h.go e3 f3 (e4.pc (Or.inl rfl)) f4.pm (Nat.le_refl _) (fun _ _ => rfl) h.w rfl⟩
    · rw [if_pos q, if_neg (by decide), e1, ← e2]; rfl
    · rw [if_pos q, if_neg (by decide), f1, ← f2]; rfl
  · exact ⟨-2, σ, τ, by rw [if_neg q, if_pos rfl], by rw [if_neg q, if_pos rfl], h.rel⟩
theorem st_week : St_week Rel := by
  rintro σ τ ⟨S, h⟩
  dsimp only
  have hw := h.w
  have hc := h.c; have hm := h.m
  unfold fX4_week fX5_week
  rw [hc.2.2.1, hm.2.2.1, if_eq_lit (L := 999) (k := 999) rfl (by omega) (by decide)]
  by_cases q : sW S = 999
  · refine ⟨-3, σ, τ, ?_, by rw [if_pos q], h.rel⟩
    rw [if_neg (show ¬ nI (sW S) < 999 from nI_nlt (b := 999) (by omega) (by omega))]
  · obtain ⟨r, e1, e2, e3, e4⟩ := drift_ok fl40 hc (by omega)
    obtain ⟨r', f1, f2, f3, f4⟩ := passes_ok hm (by omega)
    refine ⟨nI (newOut S (weekS S)), r.2, r'.2, ?_, ?_, h.go e3 f3 (e4.pc (Or.inl rfl)) f4.pm (Nat.le_refl _) (fun _ _ => rfl) (by show sW S + 1 ≤ 999; omega) rfl⟩
    · rw [if_pos (show nI (sW S) < 999 from nI_lt (b := 999) (by omega) (by omega)), e1, ← e2]; rfl
    · rw [if_neg q, f1, ← f2]; rfl
theorem st_floor : St_floor Rel := by
  rintro a1 σ τ ⟨S, h⟩
  dsimp only
  have hc := h.c; have hm := h.m
  suffices hh : ∃ r, fX4_floor a1 σ = some r ∧ fX5_floor a1 τ = some r by
    obtain ⟨r, h1, h2⟩ := hh
    exact ⟨r, σ, τ, by rw [h1]; rfl, by rw [h2]; rfl, h.rel⟩
  unfold fX4_floor fX5_floor
  rw [in_I τ a1 0 4 (p := 0) (q := 4) rfl rfl, bn1_s]
  by_cases q : 0 ≤ a1.toInt ∧ a1.toInt ≤ 4
  · obtain ⟨k, hk, _, rfl⟩ := of_rng q
    rw [if_pos q, if_neg (show ¬ (1 : Int32) = 0 by decide)]
    rcases (show k = 0 ∨ k = 1 ∨ k = 2 ∨ k = 3 ∨ k = 4 by omega) with rfl | rfl | rfl | rfl | rfl
    · exact ⟨nI (heapsS S), by rw [if_pos (by decide), heaps_ok hc]; rfl, by rw [if_pos (by decide), mheaps_ok hm]; rfl⟩
    · exact ⟨nI (greatS S), by rw [if_neg (by decide), if_pos (by decide), greatest_ok hc]; rfl, by rw [if_neg (by decide), if_pos (by decide), mgreatest_ok hm]; rfl⟩
    · exact ⟨nI (togetherS S), by rw [if_neg (by decide), if_neg (by decide), if_pos (by decide), together_ok hc]; rfl, by rw [if_neg (by decide), if_neg (by decide), if_pos (by decide), mtogethers_ok hm]; rfl⟩
    · exact ⟨nI (spreadS S), by rw [if_neg (by decide), if_neg (by decide), if_neg (by decide), if_pos (by decide), spread_ok hc]; rfl, by rw [if_neg (by decide), if_neg (by decide), if_neg (by decide), if_pos (by decide), mspread_ok hm]; rfl⟩
    · have e1 := thoseIn_ok hc (o := none) (fun c z => by cases z)
      have e2 := whoIn_ok hm (o := none) (fun c z => by cases z)
      rw [show enc none = -1 from rfl] at e1 e2
      exact ⟨nI (whoS S none), by rw [if_neg (by decide), if_neg (by decide), if_neg (by decide), if_neg (by decide), if_pos (by decide), e1]; rfl, by rw [if_neg (by decide), if_neg (by decide), if_neg (by decide), if_neg (by decide), e2]; rfl⟩
  · rw [if_neg q, if_pos rfl]
    refine ⟨-2, ?_, rfl⟩
    rw [if_neg (fun e => q (by subst e; decide)), if_neg (fun e => q (by subst e; decide)), if_neg (fun e => q (by subst e; decide)), if_neg (fun e => q (by subst e; decide)), if_neg (fun e => q (by subst e; decide))]
/-- one more of dust -/
def addS (S : FS) (k u c : Nat) : FS := (sN S + 1, (fun e => if e = sN S then k else sK S e), (fun e => if e = sN S then u else sU S e), (fun e => if e = sN S then some c else sA S e), sC S, sW S, sF S, sV S)
theorem okS_add {S : FS} (h : okS S) {k u c : Nat} (hk : k < 6) (hu : u < 10) (hc : c < 36) (hn : sN S < 8) : okS (addS S k u c) := by
  refine ⟨hn, fun d hd => ?_, h.2.2⟩
  show (if d = sN S then k else sK S d) < 6 ∧ (if d = sN S then u else sU S d) < 10 ∧ ∀ e, (if d = sN S then some c else sA S d) = some e → e < 36
  by_cases q : d = sN S
  · rw [if_pos q, if_pos q, if_pos q]
    exact ⟨hk, hu, fun e he => by cases he; exact hc⟩
  · rw [if_neg q, if_neg q, if_neg q]
    exact h.2.1 d (by have : d < sN S + 1 := hd; omega)
theorem dust_body4 (σ : Mem) {S : FS} (h : CR σ 40 S) {k u c : Nat} (hk : k < 6) (hu : u < 10) (hc : c < 36) (hn : sN S < 8) : ∃ F, fX0_add 40 (nI k) (nI u) (nI c) σ = some (1, F) ∧ CR F 40 (addS S k u c) ∧ FR 40 σ F := by
  unfold fX0_add
  rw [h.2.1, if_pos (show nI (sN S) < 8 from nI_lt (b := 8) hn (by omega))]
  have g : inB (nI (sN S)) 8 = true := inB_nI hn (by omega)
  rw [gd_of g, stp_e, wr_nI (by omega)]
  have t1 : (putI σ 41 (sN S) (nI k)).1 40 7 = nI (sN S) := by rw [putI_row _ _ _ _ (by decide)]; exact h.2.1
  rw [t1, gd_of g, stp_e, wr_nI (by omega)]
  have t2 : (putI (putI σ 41 (sN S) (nI k)) 42 (sN S) (nI u)).1 40 7 = nI (sN S) := by rw [putI_row _ _ _ _ (by decide)]; exact t1
  rw [t2, gd_of g, stp_e, wr_nI (by omega)]
  have t3 : (putI (putI (putI σ 41 (sN S) (nI k)) 42 (sN S) (nI u)) 43 (sN S) (nI c)).1 40 7 = nI (sN S) := by rw [putI_row _ _ _ _ (by decide)]; exact t2
  rw [t3, stp_e, nI_1]
  refine ⟨_, rfl, ?_, fun j hj hq => ?_, fun j hj => rfl⟩
  · obtain ⟨h0, h1, h2, h3, h4, h5, ρ, hρ, h6, h7⟩ := h
    refine ⟨okS_add h0 hk hu hc hn, putI_self .., ?_, ?_, fun d hd => ⟨?_, ?_, ?_⟩, h5, ρ, hρ, ?_, h7.mono ?_ ?_⟩
    · simp [putI_at]; exact h2
    · simp [putI_at]; exact h3
    · show _ = nI (if d = sN S then k else sK S d)
      by_cases q : d = sN S
      · simp [putI_at, q]
      · simp [putI_at, q]; exact (h4 d (by have : d < sN S + 1 := hd; omega)).1
    · show _ = nI (if d = sN S then u else sU S d)
      by_cases q : d = sN S
      · simp [putI_at, q]
      · simp [putI_at, q]; exact (h4 d (by have : d < sN S + 1 := hd; omega)).2.1
    · show _ = enc (if d = sN S then some c else sA S d)
      by_cases q : d = sN S
      · simp [putI_at, q]; rfl
      · simp [putI_at, q]; exact (h4 d (by have : d < sN S + 1 := hd; omega)).2.2
    · simp [putI_at]; exact h6
    · rw [putI_row _ _ _ _ (by omega), putI_row _ _ _ _ (by omega), putI_row _ _ _ _ (by omega), putI_row _ _ _ _ (by omega)]
    · rw [putI_row _ _ _ _ (by omega), putI_row _ _ _ _ (by omega), putI_row _ _ _ _ (by omega), putI_row _ _ _ _ (by omega)]
  · have q0 := hq 0 (by omega); have q1 := hq 1 (by omega); have q2 := hq 2 (by omega); have q3 := hq 3 (by omega)
    rw [putI_row _ _ _ _ (by omega), putI_row _ _ _ _ (by omega), putI_row _ _ _ _ (by omega), putI_row _ _ _ _ (by omega)]
/-- what dust() does, on both sides -/
theorem dust_both {σ τ : Mem} {S : FS} (h : RelS σ τ S) (a1 a2 a3 : Int32) : ∃ r σ' τ' S', fX4_dust a1 a2 a3 σ = some (r, σ') ∧ fX5_dust a1 a2 a3 τ = some (r, τ') ∧ RelS σ' τ' S' ∧ PC σ σ' ∧ PM τ τ' := by
  have hc := h.c; have hm := h.m
  have hn := hc.n
  unfold fX4_dust fX5_dust fX4_isDust
  rw [within_I σ a1 0 5 (p := 0) (q := 5) rfl rfl, in_I τ a1 0 5 (p := 0) (q := 5) rfl rfl, bn1_s, bn1_s, within_I σ a2 0 9 (p := 0) (q := 9) rfl rfl, in_I τ a2 0 9 (p := 0) (q := 9) rfl rfl, bn1_s, bn1_s, isCell4, isCell5, bn1_s, bn1_s]
  by_cases q1 : 0 ≤ a1.toInt ∧ a1.toInt ≤ 5
  · rw [if_pos q1, if_neg (show ¬ (1 : Int32) = 0 by decide), if_neg (show ¬ (1 : Int32) = 0 by decide)]
    by_cases q2 : 0 ≤ a2.toInt ∧ a2.toInt ≤ 9
    · rw [if_pos q2, if_neg (show ¬ (1 : Int32) = 0 by decide), if_neg (show ¬ (1 : Int32) = 0 by decide)]
      by_cases q3 : 0 ≤ a3.toInt ∧ a3.toInt ≤ 35
      · rw [if_pos q3, if_neg (show ¬ (1 : Int32) = 0 by decide), if_neg (show ¬ (1 : Int32) = 0 by decide), bn1_s, if_neg (show ¬ (1 : Int32) = 0 by decide)]
        obtain ⟨k, hk, _, rfl⟩ := of_rng q1
        obtain ⟨u, hu, _, rfl⟩ := of_rng q2
        obtain ⟨c, hc36, _, rfl⟩ := of_rng q3
        by_cases q4 : sN S = 8
        · refine ⟨-4, σ, τ, S, ?_, ?_, h, PC.rf, PM.rf⟩
          · unfold fX0_add
            rw [hc.2.1, q4, if_neg (by decide)]
            rfl
          · rw [hm.2.1, q4, if_pos (by decide)]
        · obtain ⟨F, e1, e2, e3⟩ := dust_body4 σ hc (k := k) (u := u) (c := c) (by omega) (by omega) (by omega) (by omega)
          have g : inB (nI (sN S)) 8 = true := inB_nI (by omega) (by omega)
          have hM := hm
          rw [hm.2.1, if_eq_lit (L := 8) (k := 8) rfl (by omega) (by decide), if_neg q4, gd_of g, stp_e, wr_nI (by omega)]
          have t1 : (putI τ 5 (sN S) (nI k)).1 0 13 = nI (sN S) := by rw [putI_row _ _ _ _ (by decide)]; exact hm.2.1
          rw [t1, gd_of g, stp_e, wr_nI (by omega)]
          have t2 : (putI (putI τ 5 (sN S) (nI k)) 6 (sN S) (nI u)).1 0 13 = nI (sN S) := by rw [putI_row _ _ _ _ (by decide)]; exact t1
          rw [t2, gd_of g, stp_e, wr_nI (by omega)]
          have t3 : (putI (putI (putI τ 5 (sN S) (nI k)) 6 (sN S) (nI u)) 7 (sN S) (nI c)).1 0 13 = nI (sN S) := by rw [putI_row _ _ _ _ (by decide)]; exact t2
          rw [t3, stp_e, nI_1, putI_self, e1]
          have pm : PM τ (putI (putI (putI (putI τ 5 (sN S) (nI k)) 6 (sN S) (nI u)) 7 (sN S) (nI c)) 0 13 (nI (sN S + 1))) := (((PM.rf.put (by omega)).put (by omega)).put (by omega)).fld (by omega)
          refine ⟨nI (sN S), F, _, addS S k u c, ?_, ?_, ?_, e3.pc (Or.inl rfl), pm⟩
          · rw [bnd_s, if_neg (by decide), e2.2.1, show nI (sN (addS S k u c)) = nI (sN S + 1) from rfl, nI_pred]
          · rw [nI_pred]
          · obtain ⟨T, VV, _, _, hw, hρ, hr⟩ := h
            refine ⟨T, VV, e2, ?_, hw, hρ, hr.go (e3.pc (Or.inl rfl)) pm (Nat.le_succ _) (fun d hd => ?_)⟩
            · obtain ⟨h0, h1, h2, h3, h4, h5, ρ, hρ, h6, h7⟩ := hm
              refine ⟨okS_add h0 (by omega) (by omega) (by omega) (by omega), putI_self .., ?_, ?_, fun d hd => ⟨?_, ?_, ?_⟩, fun e he => ?_, ρ, hρ, ?_, h7.mono (fun i hi => ?_) ?_⟩
              · simp [putI_at]; exact h2
              · simp [putI_at]; exact h3
              · show _ = nI (if d = sN S then k else sK S d)
                by_cases q : d = sN S
                · simp [putI_at, q]
                · simp [putI_at, q]; exact (h4 d (by have : d < sN S + 1 := hd; omega)).1
              · show _ = nI (if d = sN S then u else sU S d)
                by_cases q : d = sN S
                · simp [putI_at, q]
                · simp [putI_at, q]; exact (h4 d (by have : d < sN S + 1 := hd; omega)).2.1
              · show _ = enc (if d = sN S then some c else sA S d)
                by_cases q : d = sN S
                · simp [putI_at, q]; rfl
                · simp [putI_at, q]; exact (h4 d (by have : d < sN S + 1 := hd; omega)).2.2
              · simp [putI_at]; exact h5 e he
              · simp [putI_at]; exact h6
              · simp [putI_at]
              · rw [putI_row _ _ _ _ (by decide), putI_row _ _ _ _ (by decide), putI_row _ _ _ _ (by decide), putI_row _ _ _ _ (by decide)]
            · show (if d = sN S then k else sK S d) = sK S d
              rw [if_neg (by omega)]
      · rw [if_neg q3, if_pos rfl, if_pos rfl, bn1_s, if_pos rfl]
        exact ⟨-2, σ, τ, S, rfl, rfl, h, PC.rf, PM.rf⟩
    · rw [if_neg q2, if_pos rfl, if_pos rfl, bn1_s, if_pos rfl]
      exact ⟨-2, σ, τ, S, rfl, rfl, h, PC.rf, PM.rf⟩
  · rw [if_neg q1, if_pos rfl, if_pos rfl, bn1_s, if_pos rfl]
    exact ⟨-2, σ, τ, S, rfl, rfl, h, PC.rf, PM.rf⟩
theorem st_dust : St_dust Rel := by
  rintro a1 a2 a3 σ τ ⟨S, h⟩
  obtain ⟨r, σ', τ', S', h1, h2, h3, _, _⟩ := dust_both h a1 a2 a3
  exact ⟨r, σ', τ', h1, h2, h3.rel⟩
