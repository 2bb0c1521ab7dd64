/-! ===== tells ===== -/
theorem setK_K (S : FS) (d a b : Nat) : setK (setK S d a) d b = setK S d b := by
  have e : (fun e => if e = d then b else if e = d then a else sK S e) = fun e => if e = d then b else sK S e := by
    funext e
    by_cases q : e = d
    · rw [if_pos q, if_pos q]
    · rw [if_neg q, if_neg q, if_neg q]
  show (sN S, (fun e => if e = d then b else if e = d then a else sK S e), sU S, sA S, sC S, sW S, sF S, sV S) = _
  rw [e]
  rfl
theorem setK_id (S : FS) (d : Nat) : setK S d (sK S d) = S := by
  have e : (fun e => if e = d then sK S d else sK S e) = sK S := by
    funext e
    by_cases q : e = d
    · rw [if_pos q, q]
    · rw [if_neg q]
  show (sN S, (fun e => if e = d then sK S d else sK S e), sU S, sA S, sC S, sW S, sF S, sV S) = _
  rw [e]
  rfl
theorem setU_U (S : FS) (d a b : Nat) : setU (setU S d a) d b = setU S d b := by
  have e : (fun e => if e = d then b else if e = d then a else sU S e) = fun e => if e = d then b else sU S e := by
    funext e
    by_cases q : e = d
    · rw [if_pos q, if_pos q]
    · rw [if_neg q, if_neg q, if_neg q]
  show (sN S, sK S, (fun e => if e = d then b else if e = d then a else sU S e), sA S, sC S, sW S, sF S, sV S) = _
  rw [e]
  rfl
theorem setU_id (S : FS) (d : Nat) : setU S d (sU S d) = S := by
  have e : (fun e => if e = d then sU S d else sU S e) = sU S := by
    funext e
    by_cases q : e = d
    · rw [if_pos q, q]
    · rw [if_neg q]
  show (sN S, sK S, (fun e => if e = d then sU S d else sU S e), sA S, sC S, sW S, sF S, sV S) = _
  rw [e]
  rfl
theorem setA_A (S : FS) (d : Nat) (a b : Option Nat) : setA1 (setA1 S d a) d b = setA1 S d b := by
  have e : (fun e => if e = d then b else if e = d then a else sA S e) = fun e => if e = d then b else sA S e := by
    funext e
    by_cases q : e = d
    · rw [if_pos q, if_pos q]
    · rw [if_neg q, if_neg q, if_neg q]
  show (sN S, sK S, sU S, (fun e => if e = d then b else if e = d then a else sA S e), sC S, sW S, sF S, sV S) = _
  rw [e]
  rfl
theorem setA_id (S : FS) (d : Nat) : setA1 S d (sA S d) = S := by
  have e : (fun e => if e = d then sA S d else sA S e) = sA S := by
    funext e
    by_cases q : e = d
    · rw [if_pos q, q]
    · rw [if_neg q]
  show (sN S, sK S, sU S, (fun e => if e = d then sA S d else sA S e), sC S, sW S, sF S, sV S) = _
  rw [e]
  rfl
/-- the model's look at all of a sort, from above down -/
theorem mdown {τ : Mem} {S : FS} {k n d c hi : Nat} {its : Nat → Int32} {so a3 before : Int32} (hk : k < 4) (hn : n ≤ 10) (h2 : τ.1 15 k = nI n) (hit : ∀ i, i < n → τ.1 16 (40 * k + i) = its i) (h : MR τ S) (hd : d < sN S) (hhi : hi ≤ 100) (T : Nat → FS) (hT : ∀ v, v < hi → sN (T v) = sN S ∧ sA (T v) d = some c)
    (hL : ∀ v, v < hi → ∀ τ1 X, MR τ1 X → PM τ τ1 → (X = S ∨ ∃ u, u < hi ∧ X = T u) → ∃ τ2, fX5_lays so (nI d) (nI v) τ1 = some τ2 ∧ MR τ2 (T v) ∧ PM τ1 τ2)
    (hB : ∀ τ1 X, MR τ1 X → PM τ τ1 → (X = S ∨ ∃ u, u < hi ∧ X = T u) → ∃ τ2, fX5_lays so (nI d) before τ1 = some τ2 ∧ MR τ2 S ∧ PM τ1 τ2)
    (P : Nat → Bool) (hP : ∀ v, v < hi → P v = (fo (T v) its n d c == none)) : ∃ r, loopN (fX5_tells_L203 (nI k) (nI d) a3) 1000 (τ, so, before, 0, 0, -1, nI hi - 1) = some r ∧ ((a3 = 3 → r.1 = nI (cnt P hi)) ∧ (a3 = 4 → r.1 = lv (fs P hi)) ∧ (¬ a3 = 3 → ¬ a3 = 4 → hi ≤ 10 → r.1 = nI (mkb P hi)) ∧ MR r.2 S ∧ PM τ r.2) := by
  refine loop_in (b := fX5_tells_L203 (nI k) (nI d) a3) (fun j v => v.2.1 = so ∧ v.2.2.1 = before ∧ (hi ≤ 10 → v.2.2.2.1 = nI (mkh P hi j)) ∧ v.2.2.2.2.1 = nI (cnh P hi j) ∧ v.2.2.2.2.2.1 = lv (lsh P hi j) ∧ v.2.2.2.2.2.2 = nI (hi - j) - 1 ∧ (∃ X, MR v.1 X ∧ (X = S ∨ ∃ u, u < hi ∧ X = T u)) ∧ PM τ v.1) _ hi ?_ ?_ 1000 0 (τ, so, before, 0, 0, -1, nI hi - 1) (Nat.zero_le _) (by omega) ⟨rfl, rfl, fun _ => rfl, rfl, rfl, rfl, ⟨S, h, Or.inl rfl⟩, PM.rf⟩
  · rintro j ⟨τi, x1, x2, x3, x4, x5, x6⟩ hj ⟨e1, e2, e3, e4, e5, e6, ⟨X, hm, hX⟩, hp⟩
    dsimp only at e1 e2 e3 e4 e5 e6 hm hp
    subst e1 e2
    have ev : x6 = nI (hi - 1 - j) := e6.trans ((pk_sub (a := hi - j) (b := 1) (by omega)).trans (by congr 1; omega))
    obtain ⟨τ2, f1, f2, f3⟩ := hL (hi - 1 - j) (by omega) τi X hm hp hX
    have pt : PM τ τ2 := hp.tr f3
    obtain ⟨hTN, hTA⟩ := hT (hi - 1 - j) (by omega)
    obtain ⟨r, g1, g2, g3, g4⟩ := mfo_ok (its := its) hk hn (by rw [pt.1 15 (by decide) (by decide) (by decide) (by decide) (by decide) (by decide) (by decide)]; exact h2) (fun i hi => by rw [pt.1 16 (by decide) (by decide) (by decide) (by decide) (by decide) (by decide) (by decide)]; exact hit i hi) f2 (by rw [hTN]; exact hd) hTA
    have hPv := hP (hi - 1 - j) (by omega)
    have em : nI (hi - 1 - j) + (-1) = nI (hi - (j + 1)) - 1 := by
      rw [show hi - 1 - j = hi - (j + 1) by omega]
      exact (Int32.sub_eq_add_neg ..).symm
    have n0 : ¬ nI (hi - 1 - j) < 0 := nI_pos (by omega)
    have lvm := lv_m1 (o := fo (T (hi - 1 - j)) its n d c) (fo_lt hn)
    by_cases w : fo (T (hi - 1 - j)) its n d c = none
    · have pv : P (hi - 1 - j) = true := by rw [hPv, w]; rfl
      refine ⟨(r.2, x1, x2, (if 10 ≤ nI (hi - 1 - j) then x3 ||| 0 else x3 ||| (1 <<< (nI (hi - 1 - j) &&& 31))), x4 + 1, nI (hi - 1 - j), nI (hi - (j + 1)) - 1), fun ih => ?_, rfl, rfl, fun h10 => ?_, ?_, ?_, rfl, ⟨T (hi - 1 - j), g3, Or.inr ⟨_, by omega, rfl⟩⟩, pt.tr g4⟩
      · unfold fX5_tells_L203
        dsimp only
        rw [ev, if_neg n0, f1, bn1_s, g1]
        show (if r.1 = -1 then _ else _) = _
        rw [if_pos (by rw [g2]; exact lvm.mpr w), em]
        by_cases q : (10 : Int32) ≤ nI (hi - 1 - j)
        · rw [if_pos q, if_pos q]
        · rw [if_neg q, if_neg q]
      · dsimp only
        rw [if_neg (show ¬ (10 : Int32) ≤ nI (hi - 1 - j) from nI_ge (b := 10) (by omega) (by omega)), e3 h10, bit_down _ (by omega) _ (mkh_lt h10 (by omega)) (by
          rw [show hi - 1 - j + 1 = hi - j by omega]; exact mkh_mod P hi j (by omega))]
        simp only [mkh]
        rw [if_pos pv]
      · dsimp only
        rw [e4, nI_1]
        simp only [cnh]
        rw [if_pos pv]
      · dsimp only
        simp only [lsh]
        rw [if_pos pv]
        rfl
    · have pv : P (hi - 1 - j) = false := by rw [hPv]; exact beq_eq_false_iff_ne.mpr w
      refine ⟨(r.2, x1, x2, x3, x4, x5, nI (hi - (j + 1)) - 1), fun ih => ?_, rfl, rfl, fun h10 => ?_, ?_, ?_, rfl, ⟨T (hi - 1 - j), g3, Or.inr ⟨_, by omega, rfl⟩⟩, pt.tr g4⟩
      · unfold fX5_tells_L203
        dsimp only
        rw [ev, if_neg n0, f1, bn1_s, g1]
        show (if r.1 = -1 then _ else _) = _
        rw [if_neg (by rw [g2]; exact fun z => w (lvm.mp z)), em]
      · dsimp only
        rw [e3 h10]
        simp only [mkh]
        rw [if_neg (by rw [pv]; decide), Nat.add_zero]
      · dsimp only
        rw [e4]
        simp only [cnh]
        rw [if_neg (by rw [pv]; decide), Nat.add_zero]
      · dsimp only
        simp only [lsh]
        rw [if_neg (by rw [pv]; decide)]
        exact e5
  · rintro ⟨τi, x1, x2, x3, x4, x5, x6⟩ ⟨e1, e2, e3, e4, e5, e6, ⟨X, hm, hX⟩, hp⟩
    dsimp only at e1 e2 e3 e4 e5 e6 hm hp
    subst e1 e2
    obtain ⟨τ2, f1, f2, f3⟩ := hB τi X hm hp hX
    have l0 := lsh_ok P hi hi (Nat.le_refl _)
    have c0 := cnh_ok P hi hi (Nat.le_refl _)
    have m0 := mkh_ok P hi hi (Nat.le_refl _)
    rw [Nat.sub_self] at l0 c0 m0
    have l0 : fs P hi = lsh P hi hi := l0
    have c0 : cnh P hi hi = cnt P hi := by rw [← c0]; simp [cnt]
    have m0 : mkh P hi hi = mkb P hi := by rw [← m0]; simp [mkb]
    rw [l0.symm] at e5
    rw [c0] at e4
    refine ⟨((if a3 = 3 then x4 else if a3 = 4 then x5 else x3), τ2), fun ih => ?_, fun q => ?_, fun q => ?_, fun q1 q2 h10 => ?_, f2, hp.tr f3⟩
    · unfold fX5_tells_L203 fX5_tells_b260
      dsimp only
      rw [e6, Nat.sub_self, if_pos (show nI 0 - 1 < 0 by decide), f1, bn1_s]
      by_cases q : a3 = 3
      · rw [if_pos q, if_pos q]
      · rw [if_neg q, if_neg q]
        by_cases q4 : a3 = 4
        · rw [if_pos q4, if_pos q4]
        · rw [if_neg q4, if_neg q4]
    · dsimp only
      rw [if_pos q]; exact e4
    · dsimp only
      rw [if_neg (by rw [q]; decide), if_pos q]; exact e5
    · dsimp only
      rw [if_neg q1, if_neg q2, e3 h10, m0]
/-! the class's looks, from below up; what holds of its memory all the while -/
def CI (σ0 : Mem) (S : FS) (hi : Nat) (T : Nat → FS) (σ : Mem) : Prop := CR σ 40 S ∧ PC σ0 σ ∧ ∃ X f', (X = S ∨ ∃ u, u < hi ∧ X = T u) ∧ CR σ 52 (setF X f')
theorem cup_bits {σ0 : Mem} {S : FS} {hi : Nat} {T : Nat → FS} (h10 : hi ≤ 10) (P : Nat → Bool) {b : (Mem × Int32 × Int32 → Option (Int32 × Mem)) → Mem × Int32 × Int32 → Option (Int32 × Mem)} (hs : ∀ i, i < hi → ∀ σ, CI σ0 S hi T σ → ∃ σ', CI σ0 S hi T σ' ∧ ∀ ih y, b ih (σ, y, nI i) = if P i then ih (σ', y ||| ((1 : Int32) <<< (nI i &&& 31)), nI (i + 1)) else ih (σ', y, nI (i + 1))) (he : ∀ σ, CI σ0 S hi T σ → ∀ ih y, b ih (σ, y, nI hi) = some (y, σ)) {σ : Mem} (h : CI σ0 S hi T σ) : ∃ r, loopN b 1000 (σ, 0, 0) = some r ∧ (r.1 = nI (mkb P hi) ∧ CI σ0 S hi T r.2) := by
  refine loop_in (b := b) (fun i v => v.2.2 = nI i ∧ v.2.1 = nI (mkb P i) ∧ CI σ0 S hi T v.1) _ hi ?_ ?_ 1000 0 (σ, 0, 0) (Nat.zero_le _) (by omega) ⟨rfl, rfl, h⟩
  · rintro i ⟨σi, x, y⟩ hi ⟨hy, hx, hc⟩
    dsimp only at hy hx hc
    subst hy hx
    obtain ⟨σ', h1, h2⟩ := hs i hi σi hc
    by_cases q : P i = true
    · refine ⟨(σ', nI (mkb P (i + 1)), nI (i + 1)), fun ih => ?_, rfl, rfl, h1⟩
      rw [h2, if_pos q, bit_or10 i (by omega) _ (mkb_lt P i)]
      simp only [mkb]
      rw [if_pos q]
    · refine ⟨(σ', nI (mkb P (i + 1)), nI (i + 1)), fun ih => ?_, rfl, rfl, h1⟩
      rw [h2, if_neg q]
      simp only [mkb]
      rw [if_neg q]
      rfl
  · rintro ⟨σi, x, y⟩ ⟨hy, hx, hc⟩
    dsimp only at hy hx hc
    subst hy hx
    exact ⟨(nI (mkb P hi), σi), fun ih => he σi hc ih _, rfl, hc⟩
theorem cup_cnt {σ0 : Mem} {S : FS} {hi : Nat} {T : Nat → FS} (h10 : hi ≤ 100) (P : Nat → Bool) {b : (Mem × Int32 × Int32 → Option (Int32 × Mem)) → Mem × Int32 × Int32 → Option (Int32 × Mem)} (hs : ∀ i, i < hi → ∀ σ, CI σ0 S hi T σ → ∃ σ', CI σ0 S hi T σ' ∧ ∀ ih y, b ih (σ, y, nI i) = if P i then ih (σ', y + 1, nI (i + 1)) else ih (σ', y, nI (i + 1))) (he : ∀ σ, CI σ0 S hi T σ → ∀ ih y, b ih (σ, y, nI hi) = some (y, σ)) {σ : Mem} (h : CI σ0 S hi T σ) : ∃ r, loopN b 1000 (σ, 0, 0) = some r ∧ (r.1 = nI (cnt P hi) ∧ CI σ0 S hi T r.2) := by
  refine loop_in (b := b) (fun i v => v.2.2 = nI i ∧ v.2.1 = nI (cnt P i) ∧ CI σ0 S hi T v.1) _ hi ?_ ?_ 1000 0 (σ, 0, 0) (Nat.zero_le _) (by omega) ⟨rfl, rfl, h⟩
  · rintro i ⟨σi, x, y⟩ hi ⟨hy, hx, hc⟩
    dsimp only at hy hx hc
    subst hy hx
    obtain ⟨σ', h1, h2⟩ := hs i hi σi hc
    by_cases q : P i = true
    · refine ⟨(σ', nI (cnt P (i + 1)), nI (i + 1)), fun ih => ?_, rfl, rfl, h1⟩
      rw [h2, if_pos q, nI_1]
      simp only [cnt]
      rw [if_pos q]
    · refine ⟨(σ', nI (cnt P (i + 1)), nI (i + 1)), fun ih => ?_, rfl, rfl, h1⟩
      rw [h2, if_neg q]
      simp only [cnt]
      rw [if_neg q]
      rfl
  · rintro ⟨σi, x, y⟩ ⟨hy, hx, hc⟩
    dsimp only at hy hx hc
    subst hy hx
    exact ⟨(nI (cnt P hi), σi), fun ih => he σi hc ih _, rfl, hc⟩
/-- one look behind one write into the thought -/
theorem ci_look {σ0 σ σ1 : Mem} {S Y : FS} {k n d c hi g v : Nat} {T : Nat → FS} {its : Nat → Int32} (hk : k < 4) (hn : n ≤ 10) (h2 : σ0.1 (32 + 2 * k) 2 = nI n) (hit : ∀ i, i < n → σ0.1 (33 + 2 * k) i = its i) (hI : CI σ0 S hi T σ) (hfr : FR 52 σ σ1) (h52 : CR σ1 52 (setF Y g)) (hY : Y = T v) (hv : v < hi) (hd : d < sN Y) (hA : sA Y d = some c) : ∃ r, fX4_firstOtherwise (32 + 2 * k) (nI d) σ1 = some r ∧ (r.1 = lv (fo Y its n d c) ∧ CI σ0 S hi T r.2) := by
  obtain ⟨c40, pc, _⟩ := hI
  obtain ⟨s1, s2⟩ := sh_scr k hk
  have p1 : PC σ0 σ1 := pc.tr (hfr.pc (by omega))
  obtain ⟨r, e1, e2, ⟨f'', e3⟩, e4⟩ := cfo_ok (its := its) hk hn (by rw [p1.row s1 (by omega)]; exact h2) (fun i hi => by rw [p1.row s2 (by omega)]; exact hit i hi) h52 hd hA
  have frt := hfr.tr e4
  exact ⟨r, e1, e2, c40.fr fl40 fl52 (by decide) frt, p1.tr (e4.pc (by omega)), Y, f'', Or.inr ⟨v, hv, hY⟩, e3⟩
theorem putI_FR {σ : Mem} {b j k : Nat} {v : Int32} (h : b ≤ j ∧ j < b + 5) : FR b σ (putI σ j k v) := ⟨fun i _ hk => putI_row _ _ _ _ (fun e => hk (j - b) (by omega) (by omega)), fun _ _ => rfl⟩
section TOLD
variable {σ0 : Mem} {S : FS} {k n d c : Nat} {its : Nat → Int32}
theorem kinds_ok (hk : k < 4) (hn : n ≤ 10) (h2 : σ0.1 (32 + 2 * k) 2 = nI n) (hit : ∀ i, i < n → σ0.1 (33 + 2 * k) i = its i) (hd : d < sN S) (h8 : sN S ≤ 8) (hA : sA S d = some c) {σ : Mem} (h : CI σ0 S 6 (setK S d) σ) : ∃ r, fX4_kindsTold (32 + 2 * k) (nI d) σ = some r ∧ (r.1 = nI (mkb (fun v => fo (setK S d v) its n d c == none) 6) ∧ CI σ0 S 6 (setK S d) r.2) := by
  refine cup_bits (by decide) _ (fun i hi σ1 hI => ?_) (fun σ1 hI ih y => ?_) h
  · obtain ⟨c40, pc, X, f', hX, c52⟩ := id hI
    have hY : setK X d i = setK S d i := by
      rcases hX with rfl | ⟨u, _, rfl⟩
      · rfl
      · exact setK_K S d u i
    obtain ⟨r, e1, e2, e3⟩ := ci_look (Y := setK X d i) (v := i) hk hn h2 hit hI (putI_FR (by omega)) (c52.setK fl52 (d := d) (k := i) hi) hY hi (by rw [hY]; exact hd) (by rw [hY]; exact hA)
    rw [hY] at e2
    refine ⟨r.2, e3, fun ih y => ?_⟩
    have lvm := lv_m1 (o := fo (setK S d i) its n d c) (fo_lt hn)
    unfold fX4_kindsTold_L5
    dsimp only
    rw [if_neg (show ¬ (6 : Int32) ≤ nI i from nI_ge (b := 6) (by omega) (by omega)), gd_of (inB_nI (by omega) (by decide)), stp_e, wr_nI (by omega), e1, nI_1]
    show (if r.1 = -1 then _ else _) = _
    rw [e2]
    by_cases q : fo (setK S d i) its n d c = none
    · rw [if_pos (lvm.mpr q), if_pos (by rw [q]; rfl)]
    · rw [if_neg (fun z => q (lvm.mp z)), if_neg (by rw [beq_eq_false_iff_ne.mpr q]; decide)]
  · unfold fX4_kindsTold_L5
    dsimp only
    rw [if_pos (show (6 : Int32) ≤ nI 6 by decide)]
theorem numbers_ok (hk : k < 4) (hn : n ≤ 10) (h2 : σ0.1 (32 + 2 * k) 2 = nI n) (hit : ∀ i, i < n → σ0.1 (33 + 2 * k) i = its i) (hd : d < sN S) (h8 : sN S ≤ 8) (hA : sA S d = some c) {σ : Mem} (h : CI σ0 S 10 (setU S d) σ) : ∃ r, fX4_numbersTold (32 + 2 * k) (nI d) σ = some r ∧ (r.1 = nI (mkb (fun v => fo (setU S d v) its n d c == none) 10) ∧ CI σ0 S 10 (setU S d) r.2) := by
  refine cup_bits (by decide) _ (fun i hi σ1 hI => ?_) (fun σ1 hI ih y => ?_) h
  · obtain ⟨c40, pc, X, f', hX, c52⟩ := id hI
    have hY : setU X d i = setU S d i := by
      rcases hX with rfl | ⟨u, _, rfl⟩
      · rfl
      · exact setU_U S d u i
    obtain ⟨r, e1, e2, e3⟩ := ci_look (Y := setU X d i) (v := i) hk hn h2 hit hI (putI_FR (by omega)) (c52.setU fl52 (d := d) (k := i) hi) hY hi (by rw [hY]; exact hd) (by rw [hY]; exact hA)
    rw [hY] at e2
    refine ⟨r.2, e3, fun ih y => ?_⟩
    have lvm := lv_m1 (o := fo (setU S d i) its n d c) (fo_lt hn)
    unfold fX4_numbersTold_L5
    dsimp only
    rw [if_neg (show ¬ (10 : Int32) ≤ nI i from nI_ge (b := 10) (by omega) (by omega)), gd_of (inB_nI (by omega) (by decide)), stp_e, wr_nI (by omega), e1, nI_1]
    show (if r.1 = -1 then _ else _) = _
    rw [e2]
    by_cases q : fo (setU S d i) its n d c = none
    · rw [if_pos (lvm.mpr q), if_pos (by rw [q]; rfl)]
    · rw [if_neg (fun z => q (lvm.mp z)), if_neg (by rw [beq_eq_false_iff_ne.mpr q]; decide)]
  · unfold fX4_numbersTold_L5
    dsimp only
    rw [if_pos (show (10 : Int32) ≤ nI 10 by decide)]
theorem week_step (hk : k < 4) (hn : n ≤ 10) (h2 : σ0.1 (32 + 2 * k) 2 = nI n) (hit : ∀ i, i < n → σ0.1 (33 + 2 * k) i = its i) (hd : d < sN S) (hA : sA S d = some c) {i : Nat} (hi : i < 100) {σ1 : Mem} (hI : CI σ0 S 100 (setW S) σ1) : ∃ r, fX4_firstOtherwise (32 + 2 * k) (nI d) (putI σ1 52 4 (nI i)) = some r ∧ (r.1 = lv (fo (setW S i) its n d c) ∧ CI σ0 S 100 (setW S) r.2) := by
  obtain ⟨c40, pc, X, f', hX, c52⟩ := id hI
  have hY : setW X i = setW S i := by
    rcases hX with rfl | ⟨u, _, rfl⟩
    · rfl
    · rfl
  obtain ⟨r, e1, e2, e3⟩ := ci_look (Y := setW X i) (v := i) hk hn h2 hit hI (putI_FR (by omega)) (c52.setW fl52 (w := i) (by omega)) hY hi (by rw [hY]; exact hd) (by rw [hY]; exact hA)
  rw [hY] at e2
  exact ⟨r, e1, e2, e3⟩
theorem weeks_ok (hk : k < 4) (hn : n ≤ 10) (h2 : σ0.1 (32 + 2 * k) 2 = nI n) (hit : ∀ i, i < n → σ0.1 (33 + 2 * k) i = its i) (hd : d < sN S) (hA : sA S d = some c) {σ : Mem} (h : CI σ0 S 100 (setW S) σ) : ∃ r, fX4_weeksTold (32 + 2 * k) (nI d) σ = some r ∧ (r.1 = nI (cnt (fun v => fo (setW S v) its n d c == none) 100) ∧ CI σ0 S 100 (setW S) r.2) := by
  refine cup_cnt (by decide) _ (fun i hi σ1 hI => ?_) (fun σ1 hI ih y => ?_) h
  · obtain ⟨r, e1, e2, e3⟩ := week_step hk hn h2 hit hd hA hi hI
    refine ⟨r.2, e3, fun ih y => ?_⟩
    have lvm := lv_m1 (o := fo (setW S i) its n d c) (fo_lt hn)
    unfold fX4_weeksTold_L5
    dsimp only
    rw [if_neg (show ¬ (100 : Int32) ≤ nI i from nI_ge (b := 100) (by omega) (by omega)), stp_e, e1, nI_1]
    show (if r.1 = -1 then _ else _) = _
    rw [e2]
    by_cases q : fo (setW S i) its n d c = none
    · rw [if_pos (lvm.mpr q), if_pos (by rw [q]; rfl)]
    · rw [if_neg (fun z => q (lvm.mp z)), if_neg (by rw [beq_eq_false_iff_ne.mpr q]; decide)]
  · unfold fX4_weeksTold_L5
    dsimp only
    rw [if_pos (show (100 : Int32) ≤ nI 100 by decide)]
theorem leastWeek_ok (hk : k < 4) (hn : n ≤ 10) (h2 : σ0.1 (32 + 2 * k) 2 = nI n) (hit : ∀ i, i < n → σ0.1 (33 + 2 * k) i = its i) (hd : d < sN S) (hA : sA S d = some c) {σ : Mem} (h : CI σ0 S 100 (setW S) σ) : ∃ r, fX4_leastWeekTold (32 + 2 * k) (nI d) σ = some r ∧ (r.1 = lv (fs (fun v => fo (setW S v) its n d c == none) 100) ∧ CI σ0 S 100 (setW S) r.2) := by
  unfold fX4_leastWeekTold
  refine loop_inx (b := fX4_leastWeekTold_L2 (32 + 2 * k) (nI d)) (fun i v => v.2 = nI i ∧ (∀ j, j < i → (fo (setW S j) its n d c == none) = false) ∧ CI σ0 S 100 (setW S) v.1) _ 100 ?_ ?_ 1000 0 (σ, 0) (Nat.zero_le _) (by omega) ⟨rfl, fun j hj => by omega, h⟩
  · rintro i ⟨σi, y⟩ hi ⟨hy, hf, hI⟩
    dsimp only at hy hf hI
    subst hy
    obtain ⟨r, e1, e2, e3⟩ := week_step hk hn h2 hit hd hA hi hI
    have lvm := lv_m1 (o := fo (setW S i) its n d c) (fo_lt hn)
    have body : ∀ ih, fX4_leastWeekTold_L2 (32 + 2 * k) (nI d) ih (σi, nI i) = if r.1 = -1 then some (nI i, r.2) else ih (r.2, nI (i + 1)) := fun ih => by
      unfold fX4_leastWeekTold_L2
      dsimp only
      rw [if_neg (show ¬ (100 : Int32) ≤ nI i from nI_ge (b := 100) (by omega) (by omega)), stp_e, e1, nI_1]
      rfl
    by_cases q : fo (setW S i) its n d c = none
    · right
      refine ⟨(nI i, r.2), fun ih => by rw [body, if_pos (by rw [e2]; exact lvm.mpr q)], ?_, e3⟩
      rw [fs_some (f := fun v => fo (setW S v) its n d c == none) (k := i) (by show (fo (setW S i) its n d c == none) = true; rw [q]; rfl) hf 100 hi]
      rfl
    · left
      refine ⟨(r.2, nI (i + 1)), fun ih => by rw [body, if_neg (by rw [e2]; exact fun z => q (lvm.mp z))], rfl, fun j hj => ?_, e3⟩
      by_cases w : j = i
      · subst w; exact beq_eq_false_iff_ne.mpr q
      · exact hf j (by omega)
  · rintro ⟨σi, y⟩ ⟨hy, hf, hI⟩
    dsimp only at hy hf hI
    subst hy
    refine ⟨(-1, σi), fun ih => ?_, ?_, hI⟩
    · unfold fX4_leastWeekTold_L2
      dsimp only
      rw [if_pos (show (100 : Int32) ≤ nI 100 by decide)]
    · rw [fs_none (f := fun v => fo (setW S v) its n d c == none) 100 hf]
      rfl
theorem texts_ok {TT : Nat} {VV : VT} (hT6 : TT ≤ 6) (hT : σ0.1 0 7 = nI TT) (hTS : ∀ t, t < TT → TS σ0 t (VV t)) (hk : k < 4) (hn : n ≤ 10) (h2 : σ0.1 (32 + 2 * k) 2 = nI n) (hit : ∀ i, i < n → σ0.1 (33 + 2 * k) i = its i) (hd : d < sN S) (hA : sA S d = some c) {σ : Mem} (h : CI σ0 S TT (fun v => setV S (VV v)) σ) : ∃ r, fX4_textsTold (32 + 2 * k) (nI d) σ = some r ∧ (r.1 = nI (mkb (fun v => fo (setV S (VV v)) its n d c == none) TT) ∧ CI σ0 S TT (fun v => setV S (VV v)) r.2) := by
  refine cup_bits (by omega) _ (fun i hi σ1 hI => ?_) (fun σ1 hI ih y => ?_) h
  · obtain ⟨c40, pc, X, f', hX, c52⟩ := id hI
    have hY : setV X (VV i) = setV S (VV i) := by
      rcases hX with rfl | ⟨u, _, rfl⟩
      · rfl
      · rfl
    obtain ⟨x1, x2, x3, x4⟩ := scr_tx i (by omega)
    have hts : TS σ1 i (VV i) := (hTS i hi).mono (pc.row x2 (by omega)) (pc.row x3 (by omega))
    obtain ⟨r, e1, e2, e3⟩ := ci_look (T := fun v => setV S (VV v)) (Y := setV X (VV i)) (v := i) hk hn h2 hit hI (putI_FR (by omega)) (c52.setV fl52 (by omega) hts) hY hi (by rw [hY]; exact hd) (by rw [hY]; exact hA)
    rw [hY] at e2
    refine ⟨r.2, e3, fun ih y => ?_⟩
    have lvm := lv_m1 (o := fo (setV S (VV i)) its n d c) (fo_lt hn)
    have h07 : σ1.1 0 7 = nI TT := by rw [pc.row (j := 0) rfl (by omega)]; exact hT
    unfold fX4_textsTold_L5
    dsimp only
    rw [h07, if_neg (nI_ge hi (by omega)), stp_e, e1, nI_1]
    show (if r.1 = -1 then _ else _) = _
    rw [e2]
    by_cases q : fo (setV S (VV i)) its n d c = none
    · rw [if_pos (lvm.mpr q), if_pos (by rw [q]; rfl)]
    · rw [if_neg (fun z => q (lvm.mp z)), if_neg (by rw [beq_eq_false_iff_ne.mpr q]; decide)]
  · have h07 : σ1.1 0 7 = nI TT := by rw [hI.2.1.row (j := 0) rfl (by omega)]; exact hT
    unfold fX4_textsTold_L5
    dsimp only
    rw [h07, if_pos (nI_le (Nat.le_refl _) (by omega))]
end TOLD
/-- of which dust it is so -/
def dsS (S : FS) (its : Nat → Int32) (n d : Nat) : Bool := match sA S d with
  | none => false
  | some c => fo S its n d c == none
theorem dustTold_ok {σ0 σ : Mem} {S : FS} {k n : Nat} {its : Nat → Int32} (hk : k < 4) (hn : n ≤ 10) (h2 : σ0.1 (32 + 2 * k) 2 = nI n) (hit : ∀ i, i < n → σ0.1 (33 + 2 * k) i = its i) (h : CI σ0 S 1 (fun _ => S) σ) : ∃ r, fX4_dustTold (32 + 2 * k) σ = some r ∧ (r.1 = nI (mkb (dsS S its n) (sN S)) ∧ CI σ0 S 1 (fun _ => S) r.2) := by
  have h8 := h.1.n
  unfold fX4_dustTold
  refine loop_in (b := fX4_dustTold_L4 (32 + 2 * k)) (fun i v => v.2.2 = nI i ∧ v.2.1 = nI (mkb (dsS S its n) i) ∧ CI σ0 S 1 (fun _ => S) v.1) _ (sN S) ?_ ?_ 1000 0 (σ, 0, 0) (Nat.zero_le _) (by omega) ⟨rfl, rfl, h⟩
  · rintro i ⟨σi, x, y⟩ hi ⟨hy, hx, hI⟩
    dsimp only at hy hx hI
    subst hy hx
    obtain ⟨c40, pc, X, f', hX, c52⟩ := id hI
    have hXS : X = S := by rcases hX with z | ⟨_, _, z⟩ <;> exact z
    subst hXS
    cases hA : sA X i with
    | none =>
      have q : dsS X its n i = false := by unfold dsS; rw [hA]
      refine ⟨(σi, nI (mkb (dsS X its n) (i + 1)), nI (i + 1)), fun ih => ?_, rfl, rfl, hI⟩
      unfold fX4_dustTold_L4
      dsimp only
      rw [c40.2.1, if_neg (nI_ge hi (by omega)), isIn_ok c40 hi, hA, if_pos rfl, bn1_s, if_pos rfl, nI_1]
      simp only [mkb]
      rw [q]
      rfl
    | some c =>
      obtain ⟨r, e1, e2, e3⟩ := ci_look (T := fun _ => X) (Y := X) (v := 0) hk hn h2 hit hI FR.rf c52 rfl (by omega) hi hA
      have lvm := lv_m1 (o := fo X its n i c) (fo_lt hn)
      refine ⟨(r.2, nI (mkb (dsS X its n) (i + 1)), nI (i + 1)), fun ih => ?_, rfl, rfl, e3⟩
      unfold fX4_dustTold_L4
      dsimp only
      rw [c40.2.1, if_neg (nI_ge hi (by omega)), isIn_ok c40 hi, bn1_s, if_neg (show ¬ (if sA X i = none then (0 : Int32) else 1) = 0 by rw [hA, if_neg (fun z => by cases z)]; decide), e1, nI_1]
      show (if r.1 = -1 then _ else _) = _
      rw [e2]
      simp only [mkb]
      by_cases q : fo X its n i c = none
      · have q' : dsS X its n i = true := by unfold dsS; rw [hA]; dsimp only; rw [q]; rfl
        rw [if_pos (lvm.mpr q), bit_or10 i (by omega) _ (mkb_lt _ i), if_pos q']
      · have q' : dsS X its n i = false := by unfold dsS; rw [hA]; exact beq_eq_false_iff_ne.mpr q
        rw [if_neg (fun z => q (lvm.mp z)), q']
        rfl
  · rintro ⟨σi, x, y⟩ ⟨hy, hx, hI⟩
    dsimp only at hy hx hI
    subst hy hx
    refine ⟨(nI (mkb (dsS S its n) (sN S)), σi), fun ih => ?_, rfl, hI⟩
    unfold fX4_dustTold_L4
    dsimp only
    rw [hI.1.2.1, if_pos (nI_le (Nat.le_refl _) (by omega))]
theorem bit_or0x : ∀ i, i < 10 → ∀ m, m < 2 ^ i → nI m ||| ((0 : Int32) <<< (nI i &&& 31)) = nI m := by decide +kernel
theorem likeSet_ok {τ : Mem} {S : FS} {k n : Nat} {its : Nat → Int32} (hk : k < 4) (hn : n ≤ 10) (h2 : τ.1 15 k = nI n) (hit : ∀ i, i < n → τ.1 16 (40 * k + i) = its i) (h : MR τ S) : ∃ r, fX5_likeSet (nI k) τ = some r ∧ (r.1 = nI (mkb (dsS S its n) (sN S)) ∧ MR r.2 S ∧ PM τ r.2) := by
  have h8 := h.n
  unfold fX5_likeSet
  refine loop_in (b := fX5_likeSet_L4 (nI k)) (fun i v => v.2.2 = nI i ∧ v.2.1 = nI (mkb (dsS S its n) i) ∧ MR v.1 S ∧ PM τ v.1) _ (sN S) ?_ ?_ 1000 0 (τ, 0, 0) (Nat.zero_le _) (by omega) ⟨rfl, rfl, h, PM.rf⟩
  · rintro i ⟨τi, x, y⟩ hi ⟨hy, hx, hm, hp⟩
    dsimp only at hy hx hm hp
    subst hy hx
    have g8 : inB (nI i) 8 = true := inB_nI (by omega) (by decide)
    have hr : rd τi 7 (nI i) = enc (sA S i) := by rw [rd_nI (by omega)]; exact (hm.2.2.2.2.1 i hi).2.2
    cases hA : sA S i with
    | none =>
      have q : dsS S its n i = false := by unfold dsS; rw [hA]
      refine ⟨(τi, nI (mkb (dsS S its n) (i + 1)), nI (i + 1)), fun ih => ?_, rfl, rfl, hm, hp⟩
      unfold fX5_likeSet_L4
      dsimp only
      rw [hm.2.1, if_neg (nI_ge hi (by omega)), gd_of g8, hr, hA, if_pos (show enc none = -1 from rfl), bit_or0x i (by omega) _ (mkb_lt _ i), nI_1]
      simp only [mkb]
      rw [q]
      rfl
    | some c =>
      have hc36 := hm.at36 hi c hA
      obtain ⟨r, e1, e2, e3, e4⟩ := mfo_ok (its := its) hk hn (by rw [hp.1 15 (by decide) (by decide) (by decide) (by decide) (by decide) (by decide) (by decide)]; exact h2) (fun i hi => by rw [hp.1 16 (by decide) (by decide) (by decide) (by decide) (by decide) (by decide) (by decide)]; exact hit i hi) hm hi hA
      have lvm := lv_m1 (o := fo S its n i c) (fo_lt hn)
      refine ⟨(r.2, nI (mkb (dsS S its n) (i + 1)), nI (i + 1)), fun ih => ?_, rfl, rfl, e3, hp.tr e4⟩
      unfold fX5_likeSet_L4
      dsimp only
      rw [hm.2.1, if_neg (nI_ge hi (by omega)), gd_of g8, hr, hA, if_neg (fun z => by have := (enc_none (a := some c) (fun x hx => by cases hx; exact hc36)).mp z; cases this), e1, nI_1]
      show (if r.1 = -1 then _ else _) = _
      rw [e2, bit_or10 i (by omega) _ (mkb_lt _ i), bit_or0x i (by omega) _ (mkb_lt _ i)]
      simp only [mkb]
      by_cases q : fo S its n i c = none
      · have q' : dsS S its n i = true := by unfold dsS; rw [hA]; dsimp only; rw [q]; rfl
        rw [if_pos (lvm.mpr q), if_pos q']
      · have q' : dsS S its n i = false := by unfold dsS; rw [hA]; exact beq_eq_false_iff_ne.mpr q
        rw [if_neg (fun z => q (lvm.mp z)), q']
        rfl
  · rintro ⟨τi, x, y⟩ ⟨hy, hx, hm, hp⟩
    dsimp only at hy hx hm hp
    subst hy hx
    refine ⟨(nI (mkb (dsS S its n) (sN S)), τi), fun ih => ?_, rfl, hm, hp⟩
    unfold fX5_likeSet_L4
    dsimp only
    rw [hm.2.1, if_pos (nI_le (Nat.le_refl _) (by omega))]
theorem st_tells : St_tells Rel := by
  intro a1 a2 a3
  refine simI_st (fun σ τ S h => ?_)
  have hc := h.c; have hm := h.m; have h8 := hc.n
  obtain ⟨TT, VV, _, _, hsw, ⟨ρ, hρ, hVρ⟩, ⟨t1, t2, t3, t4, t5⟩, _⟩ := id h
  have idle : ∀ r, fX4_tells a1 a2 a3 σ = some (r, σ) → fX5_tells a1 a2 a3 τ = some (r, τ) → ∃ r σ' τ', fX4_tells a1 a2 a3 σ = some (r, σ') ∧ fX5_tells a1 a2 a3 τ = some (r, τ') ∧ CR σ' 40 S ∧ MR τ' S ∧ PC σ σ' ∧ PM τ τ' := fun r h1 h2 => ⟨r, σ, τ, h1, h2, hc, hm, PC.rf, PM.rf⟩
  by_cases q1 : 0 ≤ a1.toInt ∧ a1.toInt ≤ 3
  · obtain ⟨k, hk, _, rfl⟩ := of_rng q1
    have hk : k < 4 := by omega
    have g : inB (nI k) 4 = true := inB_nI hk (by decide)
    by_cases q2 : 0 ≤ a2.toInt ∧ a2.toInt < (sN S : Int)
    · obtain ⟨d, hd, rfl⟩ := of_one q2 (by omega)
      have gd8 : inB (nI d) 8 = true := inB_nI (by omega) (by decide)
      have hr : rd τ 7 (nI d) = enc (sA S d) := by rw [rd_nI (by omega)]; exact (hm.2.2.2.2.1 d hd).2.2
      cases hA : sA S d with
      | none =>
        refine idle (-2) ?_ ?_
        · unfold fX4_tells
          rw [isSheet4, bn1_s, if_pos q1, if_neg (show ¬ (1 : Int32) = 0 by decide), isIn_ok hc hd, hA, if_pos rfl, bn1_s, if_pos rfl]
        · unfold fX5_tells
          rw [isSheet5, bn1_s, if_pos q1, if_neg (show ¬ (1 : Int32) = 0 by decide), isOne5 hm, bn1_s, if_pos q2, if_neg (show ¬ (1 : Int32) = 0 by decide), gd_of gd8, hr, hA, if_pos (show enc none = -1 from rfl)]
      | some c =>
        have hc36 := hm.at36 hd c hA
        by_cases q3 : 0 ≤ a3.toInt ∧ a3.toInt ≤ 6
        · obtain ⟨w, hw, _, rfl⟩ := of_rng q3
          have hC : fX4_tells (nI k) (nI d) (nI w) σ = bn1 (fX4_tellingRefused (32 + 2 * k) σ) fun r5 => if r5 = 0 then (bnd (fX4_toldBack (32 + 2 * k) (nI d) (nI w) σ) fun r7 σ7 => some (r7, σ7)) else some (r5, σ) := by
            unfold fX4_tells
            rw [isSheet4, bn1_s, if_pos q1, if_neg (show ¬ (1 : Int32) = 0 by decide), isIn_ok hc hd, bn1_s, if_neg (show ¬ (if sA S d = none then (0 : Int32) else 1) = 0 by rw [hA, if_neg (fun z => by cases z)]; decide), within_I σ (nI w) 0 6 (p := 0) (q := 6) rfl rfl, bn1_s, if_pos q3, if_neg (show ¬ (1 : Int32) = 0 by decide)]
            simp only [gd_of g, clampN hk]
          have hM : fX5_tells (nI k) (nI d) (nI w) τ = if τ.1 13 k = 0 then some (-11, τ) else if τ.1 15 k ≤ 10 then (if nI w = 0 then fX5_tells_b76 (nI k) (nI d) (nI w) τ else if nI w = 6 then fX5_tells_b76 (nI k) (nI d) (nI w) τ else if nI w = 1 then fX5_tells_b124 (nI k) (nI d) (nI w) τ 5 else if nI w = 2 then fX5_tells_b124 (nI k) (nI d) (nI w) τ 3 else if nI w = 5 then fX5_tells_b124 (nI k) (nI d) (nI w) τ 6 else fX5_tells_b124 (nI k) (nI d) (nI w) τ 0) else some (-2, τ) := by
            unfold fX5_tells
            rw [isSheet5, bn1_s, if_pos q1, if_neg (show ¬ (1 : Int32) = 0 by decide), isOne5 hm, bn1_s, if_pos q2, if_neg (show ¬ (1 : Int32) = 0 by decide), gd_of gd8, hr, hA, if_neg (fun z => by have := (enc_none (a := some c) (fun x hx => by cases hx; exact hc36)).mp z; cases this), in_I τ (nI w) 0 6 (p := 0) (q := 6) rfl rfl, bn1_s, if_pos q3, if_neg (show ¬ (1 : Int32) = 0 by decide), gd_of g, gd_of g, rd_nI (σ := τ) (j := 13) (k := k) (by omega), rd_nI (σ := τ) (j := 15) (k := k) (by omega)]
          rcases h.sh hk with hmiss | ⟨s, n, b1, b2, b3, b4, b5, b6, b7, b8⟩
          · refine idle (-11) ?_ ?_
            · rw [hC]
              unfold fX4_tellingRefused
              rw [miss4 hmiss, bn1_s, if_neg (by decide), bn1_s, if_neg (by decide)]
            · rw [hM, hmiss.2, if_pos rfl]
          · have hRf : fX4_tellingRefused (32 + 2 * k) σ = some (if n ≤ 10 then 0 else -2) := by
              unfold fX4_tellingRefused
              rw [there4 b1 b3, bn1_s, if_pos rfl, b6, if_le_lit (L := 10) (k := 10) rfl (by omega) (by decide)]
              by_cases z : n ≤ 10
              · rw [if_pos z, if_pos z]
              · rw [if_neg z, if_neg z]
            rw [hRf, bn1_s] at hC
            rw [b4, if_neg (show ¬ (1 : Int32) = 0 by decide), b7, if_le_lit (L := 10) (k := 10) rfl (by omega) (by decide)] at hM
            by_cases n10 : n ≤ 10
            · rw [if_pos n10, if_pos rfl] at hC
              rw [if_pos n10] at hM
              obtain ⟨F, e0, c52, q⟩ := become_ok fl52 fl40 (by decide) hc
              have hF40 := hc.fr fl40 fl52 (by decide) q
              have hFpc : PC σ F := q.pc (by omega)
              have hCI : ∀ hi T, CI σ S hi T F := fun hi T => ⟨hF40, hFpc, S, sF S, Or.inl rfl, c52⟩
              have hfin : ∀ (r : Int32 × Mem) (τ' : Mem) hi T, CI σ S hi T r.2 → fX4_tells (nI k) (nI d) (nI w) σ = some (r.1, r.2) → fX5_tells (nI k) (nI d) (nI w) τ = some (r.1, τ') → MR τ' S → PM τ τ' → ∃ r σ' τ', fX4_tells (nI k) (nI d) (nI w) σ = some (r, σ') ∧ fX5_tells (nI k) (nI d) (nI w) τ = some (r, τ') ∧ CR σ' 40 S ∧ MR τ' S ∧ PC σ σ' ∧ PM τ τ' := fun r τ' hi T hI h1 h2 h3 h4 => ⟨r.1, r.2, τ', h1, h2, hI.1, h3, hI.2.1, h4⟩
              unfold fX4_toldBack at hC
              rw [e0, bn1_s] at hC
              obtain ⟨its, hits⟩ : ∃ its : Nat → Int32, its = fun i => τ.1 16 (40 * k + i) := ⟨_, rfl⟩
              have hitC : ∀ i, i < n → σ.1 (33 + 2 * k) i = its i := fun i hi => by rw [hits]; exact b8 i hi
              have hitM : ∀ i, i < n → τ.1 16 (40 * k + i) = its i := fun i hi => by rw [hits]
              rcases (show w = 0 ∨ w = 6 ∨ w = 1 ∨ w = 2 ∨ w = 5 ∨ w = 3 ∨ w = 4 by omega) with rfl | rfl | rfl | rfl | rfl | rfl | rfl
              · rw [if_pos (by decide)] at hC hM
                obtain ⟨s1, s2⟩ := sh_scr k hk
                obtain ⟨r, e1, e2, e3, e4⟩ := cfo_ok (its := its) (S := S) (f' := sF S) hk n10 (by rw [hFpc.row s1 (by omega)]; exact b6) (fun i hi => by rw [hFpc.row s2 (by omega)]; exact hitC i hi) c52 hd hA
                obtain ⟨r', f1, f2, f3, f4⟩ := mfo_ok (its := its) hk n10 b7 hitM hm hd hA
                unfold fX5_tells_b76 at hM
                rw [if_pos (by decide), f1] at hM
                rw [e1] at hC
                refine ⟨r.1, r.2, r'.2, hC, ?_, hF40.fr fl40 fl52 (by decide) e4, f3, hFpc.tr (e4.pc (by omega)), f4⟩
                rw [hM, e2, ← f2]; rfl
              · rw [if_neg (by decide), if_neg (by decide), if_neg (by decide), if_neg (by decide), if_neg (by decide), if_neg (by decide)] at hC
                rw [if_neg (by decide), if_pos (by decide)] at hM
                obtain ⟨r, e1, e2, e3⟩ := dustTold_ok (its := its) hk n10 b6 hitC (hCI 1 (fun _ => S))
                obtain ⟨r', f1, f2, f3, f4⟩ := likeSet_ok (its := its) hk n10 b7 hitM hm
                unfold fX5_tells_b76 at hM
                rw [if_neg (by decide), f1] at hM
                rw [e1] at hC
                exact hfin r r'.2 _ _ e3 hC (by rw [hM, e2, ← f2]; rfl) f3 f4
              · rw [if_neg (by decide), if_pos (by decide)] at hC
                rw [if_neg (by decide), if_neg (by decide), if_pos (by decide)] at hM
                obtain ⟨r, e1, e2, e3⟩ := kinds_ok (its := its) hk n10 b6 hitC hd h8 hA (hCI 6 (setK S d))
                rw [e1] at hC
                obtain ⟨r', f1, f2, f3, f4, f5, f6⟩ := mdown (its := its) (so := 5) (a3 := nI 1) (before := nI (sK S d)) (hi := 6) hk n10 b7 hitM hm hd (by decide) (setK S d) (fun v hv => ⟨rfl, hA⟩) (fun v hv τ1 X hX hp hor => by
                  obtain ⟨τ2, y1, y2, y3⟩ := ml5 hX (d := d) (by rcases hor with rfl | ⟨u, _, rfl⟩ <;> exact hd) (k := v) hv
                  have hY : setK X d v = setK S d v := by
                    rcases hor with rfl | ⟨u, _, rfl⟩
                    · rfl
                    · exact setK_K S d u v
                  rw [hY] at y2
                  exact ⟨τ2, y1, y2, y3⟩) (fun τ1 X hX hp hor => by
                  obtain ⟨τ2, y1, y2, y3⟩ := ml5 hX (d := d) (by rcases hor with rfl | ⟨u, _, rfl⟩ <;> exact hd) (k := sK S d) (hc.1.2.1 d hd).1
                  have hY : setK X d (sK S d) = S := by
                    rcases hor with rfl | ⟨u, _, rfl⟩
                    · exact setK_id _ d
                    · rw [setK_K, setK_id]
                  rw [hY] at y2
                  exact ⟨τ2, y1, y2, y3⟩) _ (fun v hv => rfl)
                unfold fX5_tells_b124 at hM
                rw [if_neg (by decide), show (5 : Int32) = nI 5 from rfl, mt5 hm hd, bnd_s] at hM
                unfold fX5_tells_b147 at hM
                rw [if_neg (by decide), if_pos (by decide), show nI 5 = 5 from rfl] at hM
                exact hfin r r'.2 _ _ e3 hC (by rw [hM, e2, ← f4 (by decide) (by decide) (by decide)]; exact f1) f5 f6
              · rw [if_neg (by decide), if_neg (by decide), if_pos (by decide)] at hC
                rw [if_neg (by decide), if_neg (by decide), if_neg (by decide), if_pos (by decide)] at hM
                obtain ⟨r, e1, e2, e3⟩ := numbers_ok (its := its) hk n10 b6 hitC hd h8 hA (hCI 10 (setU S d))
                rw [e1] at hC
                obtain ⟨r', f1, f2, f3, f4, f5, f6⟩ := mdown (its := its) (so := 3) (a3 := nI 2) (before := nI (sU S d)) (hi := 10) hk n10 b7 hitM hm hd (by decide) (setU S d) (fun v hv => ⟨rfl, hA⟩) (fun v hv τ1 X hX hp hor => by
                  obtain ⟨τ2, y1, y2, y3⟩ := ml3 hX (d := d) (by rcases hor with rfl | ⟨u, _, rfl⟩ <;> exact hd) (u := v) hv
                  have hY : setU X d v = setU S d v := by
                    rcases hor with rfl | ⟨u, _, rfl⟩
                    · rfl
                    · exact setU_U S d u v
                  rw [hY] at y2
                  exact ⟨τ2, y1, y2, y3⟩) (fun τ1 X hX hp hor => by
                  obtain ⟨τ2, y1, y2, y3⟩ := ml3 hX (d := d) (by rcases hor with rfl | ⟨u, _, rfl⟩ <;> exact hd) (u := sU S d) (hc.1.2.1 d hd).2.1
                  have hY : setU X d (sU S d) = S := by
                    rcases hor with rfl | ⟨u, _, rfl⟩
                    · exact setU_id _ d
                    · rw [setU_U, setU_id]
                  rw [hY] at y2
                  exact ⟨τ2, y1, y2, y3⟩) _ (fun v hv => rfl)
                unfold fX5_tells_b124 at hM
                rw [if_neg (by decide), show (3 : Int32) = nI 3 from rfl, mt3 hm hd, bnd_s] at hM
                unfold fX5_tells_b147 at hM
                rw [if_neg (by decide), if_neg (by decide), if_pos (by decide), show nI 3 = 3 from rfl] at hM
                exact hfin r r'.2 _ _ e3 hC (by rw [hM, e2, ← f4 (by decide) (by decide) (by decide)]; exact f1) f5 f6
              · rw [if_neg (by decide), if_neg (by decide), if_neg (by decide), if_neg (by decide), if_neg (by decide), if_pos (by decide)] at hC
                rw [if_neg (by decide), if_neg (by decide), if_neg (by decide), if_neg (by decide), if_pos (by decide)] at hM
                obtain ⟨r, e1, e2, e3⟩ := texts_ok (its := its) t2 t3 (fun t ht => (t5 t ht).1) hk n10 b6 hitC hd hA (hCI TT (fun v => setV S (VV v)))
                rw [e1] at hC
                have hmts : ∀ t, t < TT → ∀ τ1, PM τ τ1 → MTS τ1 t (VV t) := fun t ht τ1 hp => (t5 t ht).2.mono (fun i hi => by rw [hp.1 1 (by decide) (by decide) (by decide) (by decide) (by decide) (by decide) (by decide)]) (by rw [hp.1 2 (by decide) (by decide) (by decide) (by decide) (by decide) (by decide) (by decide)])
                have hbef : τ.1 0 4 = nI ρ := by rw [m_rule hm, hVρ]; exact (t5 ρ hρ).2.1
                obtain ⟨r', f1, f2, f3, f4, f5, f6⟩ := mdown (its := its) (so := 6) (a3 := nI 5) (before := nI ρ) (hi := TT) hk n10 b7 hitM hm hd (by omega) (fun v => setV S (VV v)) (fun v hv => ⟨rfl, hA⟩) (fun v hv τ1 X hX hp hor => by
                  obtain ⟨τ2, y1, y2, y3⟩ := ml6 hX (nI d) (ρ := v) (by omega) (hmts v hv τ1 hp)
                  have hY : setV X (VV v) = setV S (VV v) := by
                    rcases hor with rfl | ⟨u, _, rfl⟩ <;> rfl
                  rw [hY] at y2
                  exact ⟨τ2, y1, y2, y3⟩) (fun τ1 X hX hp hor => by
                  obtain ⟨τ2, y1, y2, y3⟩ := ml6 hX (nI d) (ρ := ρ) (by omega) (hmts ρ hρ τ1 hp)
                  have hY : setV X (VV ρ) = S := by
                    rw [← hVρ]
                    rcases hor with rfl | ⟨u, _, rfl⟩ <;> rfl
                  rw [hY] at y2
                  exact ⟨τ2, y1, y2, y3⟩) _ (fun v hv => rfl)
                unfold fX5_tells_b124 at hM
                rw [if_pos (by decide), hbef] at hM
                unfold fX5_tells_b147 at hM
                rw [if_pos (by decide), t4] at hM
                exact hfin r r'.2 _ _ e3 hC (by rw [hM, e2, ← f4 (by decide) (by decide) (by omega)]; exact f1) f5 f6
              · rw [if_neg (by decide), if_neg (by decide), if_neg (by decide), if_pos (by decide)] at hC
                rw [if_neg (by decide), if_neg (by decide), if_neg (by decide), if_neg (by decide), if_neg (by decide)] at hM
                obtain ⟨r, e1, e2, e3⟩ := weeks_ok (its := its) hk n10 b6 hitC hd hA (hCI 100 (setW S))
                rw [e1] at hC
                obtain ⟨r', f1, f2, f3, f4, f5, f6⟩ := mdown (its := its) (so := 0) (a3 := nI 3) (before := nI (sW S)) (hi := 100) hk n10 b7 hitM hm hd (by decide) (setW S) (fun v hv => ⟨rfl, hA⟩) (fun v hv τ1 X hX hp hor => by
                  obtain ⟨τ2, y1, y2, y3⟩ := ml0 hX (nI d) (w := v) (by omega)
                  have hY : setW X v = setW S v := by rcases hor with rfl | ⟨u, _, rfl⟩ <;> rfl
                  rw [hY] at y2
                  exact ⟨τ2, y1, y2, y3⟩) (fun τ1 X hX hp hor => by
                  obtain ⟨τ2, y1, y2, y3⟩ := ml0 hX (nI d) (w := sW S) (by omega)
                  have hY : setW X (sW S) = S := by rcases hor with rfl | ⟨u, _, rfl⟩ <;> rfl
                  rw [hY] at y2
                  exact ⟨τ2, y1, y2, y3⟩) _ (fun v hv => rfl)
                unfold fX5_tells_b124 at hM
                rw [if_neg (by decide), show (0 : Int32) = nI 0 from rfl, mt0 hm (nI d), bnd_s] at hM
                unfold fX5_tells_b147 at hM
                rw [if_neg (by decide), if_neg (by decide), if_neg (by decide), show nI 0 = 0 from rfl] at hM
                exact hfin r r'.2 _ _ e3 hC (by rw [hM, e2, ← f2 (by decide)]; exact f1) f5 f6
              · rw [if_neg (by decide), if_neg (by decide), if_neg (by decide), if_neg (by decide), if_pos (by decide)] at hC
                rw [if_neg (by decide), if_neg (by decide), if_neg (by decide), if_neg (by decide), if_neg (by decide)] at hM
                obtain ⟨r, e1, e2, e3⟩ := leastWeek_ok (its := its) hk n10 b6 hitC hd hA (hCI 100 (setW S))
                rw [e1] at hC
                obtain ⟨r', f1, f2, f3, f4, f5, f6⟩ := mdown (its := its) (so := 0) (a3 := nI 4) (before := nI (sW S)) (hi := 100) hk n10 b7 hitM hm hd (by decide) (setW S) (fun v hv => ⟨rfl, hA⟩) (fun v hv τ1 X hX hp hor => by
                  obtain ⟨τ2, y1, y2, y3⟩ := ml0 hX (nI d) (w := v) (by omega)
                  have hY : setW X v = setW S v := by rcases hor with rfl | ⟨u, _, rfl⟩ <;> rfl
                  rw [hY] at y2
                  exact ⟨τ2, y1, y2, y3⟩) (fun τ1 X hX hp hor => by
                  obtain ⟨τ2, y1, y2, y3⟩ := ml0 hX (nI d) (w := sW S) (by omega)
                  have hY : setW X (sW S) = S := by rcases hor with rfl | ⟨u, _, rfl⟩ <;> rfl
                  rw [hY] at y2
                  exact ⟨τ2, y1, y2, y3⟩) _ (fun v hv => rfl)
                unfold fX5_tells_b124 at hM
                rw [if_neg (by decide), show (0 : Int32) = nI 0 from rfl, mt0 hm (nI d), bnd_s] at hM
                unfold fX5_tells_b147 at hM
                rw [if_neg (by decide), if_neg (by decide), if_neg (by decide), show nI 0 = 0 from rfl] at hM
                exact hfin r r'.2 _ _ e3 hC (by rw [hM, e2, ← f3 (by decide)]; exact f1) f5 f6
            · rw [if_neg n10, if_neg (by decide)] at hC
              rw [if_neg n10] at hM
              exact idle _ hC hM
        · refine idle (-2) ?_ ?_
          · unfold fX4_tells
            rw [isSheet4, bn1_s, if_pos q1, if_neg (show ¬ (1 : Int32) = 0 by decide), isIn_ok hc hd, bn1_s, if_neg (show ¬ (if sA S d = none then (0 : Int32) else 1) = 0 by rw [hA, if_neg (fun z => by cases z)]; decide), within_I σ a3 0 6 (p := 0) (q := 6) rfl rfl, bn1_s, if_neg q3, if_pos rfl]
          · unfold fX5_tells
            rw [isSheet5, bn1_s, if_pos q1, if_neg (show ¬ (1 : Int32) = 0 by decide), isOne5 hm, bn1_s, if_pos q2, if_neg (show ¬ (1 : Int32) = 0 by decide), gd_of gd8, hr, hA, if_neg (fun z => by have := (enc_none (a := some c) (fun x hx => by cases hx; exact hc36)).mp z; cases this), in_I τ a3 0 6 (p := 0) (q := 6) rfl rfl, bn1_s, if_neg q3, if_pos rfl]
    · refine idle (-2) ?_ ?_
      · unfold fX4_tells
        rw [isSheet4, bn1_s, if_pos q1, if_neg (show ¬ (1 : Int32) = 0 by decide), isIn_out hc q2, bn1_s, if_pos rfl]
      · unfold fX5_tells
        rw [isSheet5, bn1_s, if_pos q1, if_neg (show ¬ (1 : Int32) = 0 by decide), isOne5 hm, bn1_s, if_neg q2, if_pos rfl]
  · refine idle (-2) ?_ ?_
    · unfold fX4_tells
      rw [isSheet4, bn1_s, if_neg q1, if_pos rfl]
    · unfold fX5_tells
      rw [isSheet5, bn1_s, if_neg q1, if_pos rfl]
