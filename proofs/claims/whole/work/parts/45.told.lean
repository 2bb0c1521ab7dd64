/-! ===== the calls: told, set, force, count, share, taken ===== -/
theorem isOfC (τ : Mem) {k : Nat} (hk : k = 2 ∨ k = 10) (a : Int32) : fX5_isOf (nI k) a τ = some (if 0 ≤ a.toInt ∧ a.toInt ≤ 35 then 1 else 0) := by
  unfold fX5_isOf
  rcases hk with rfl | rfl
  · rw [if_neg (by decide), if_pos (by decide), isCell5, bn1_s]
    by_cases q : 0 ≤ a.toInt ∧ a.toInt ≤ 35
    · rw [if_pos q]; rfl
    · rw [if_neg q]; rfl
  · rw [if_neg (by decide), if_neg (by decide), if_pos (by decide), isCell5, bn1_s]
    by_cases q : 0 ≤ a.toInt ∧ a.toInt ≤ 35
    · rw [if_pos q]; rfl
    · rw [if_neg q]; rfl
theorem isOfO {τ : Mem} {S : FS} (h : MR τ S) {k : Nat} (hk : k = 3 ∨ k = 4 ∨ k = 5 ∨ k = 6 ∨ k = 7 ∨ k = 8 ∨ k = 9) (a : Int32) : fX5_isOf (nI k) a τ = some (if 0 ≤ a.toInt ∧ a.toInt < (sN S : Int) then 1 else 0) := by
  have e : fX5_isOf (nI k) a τ = bn1 (fX5_isOne a τ) fun r3 => if r3 = 0 then some 0 else some 1 := by
    unfold fX5_isOf
    rcases hk with rfl | rfl | rfl | rfl | rfl | rfl | rfl <;> rw [if_neg (by decide), if_neg (by decide), if_neg (by decide)]
  rw [e, isOne5 h, bn1_s]
  by_cases q : 0 ≤ a.toInt ∧ a.toInt < (sN S : Int)
  · rw [if_pos q]; rfl
  · rw [if_neg q]; rfl
section TM
variable {τ : Mem} {S : FS}
theorem mt0 (h : MR τ S) (a : Int32) : fX5_told a (nI 0) τ = some (nI (sW S), τ) := by
  unfold fX5_told fX5_isOf
  rw [in_I τ (nI 0) 0 10 (p := 0) (q := 10) rfl rfl, bn1_s, if_neg (by decide), if_pos (by decide), bn1_s, if_neg (by decide), if_neg (by decide), if_pos (by decide), h.2.2.1]
theorem mt1 (h : MR τ S) (a : Int32) : fX5_told a (nI 1) τ = some (nI (sF S), τ) := by
  unfold fX5_told fX5_isOf
  rw [in_I τ (nI 1) 0 10 (p := 0) (q := 10) rfl rfl, bn1_s, if_neg (by decide), if_pos (by decide), bn1_s, if_neg (by decide), if_neg (by decide), if_neg (by decide), if_pos (by decide), h.2.2.2.1]
theorem mt2 (h : MR τ S) {c : Nat} (hc : c < 36) : fX5_told (nI c) (nI 2) τ = some (if sC S c then 1 else 0, τ) := by
  unfold fX5_told
  rw [in_I τ (nI 2) 0 10 (p := 0) (q := 10) rfl rfl, bn1_s, if_neg (by decide), isOfC τ (Or.inl rfl), bn1_s, if_pos (show 0 ≤ (nI c).toInt ∧ (nI c).toInt ≤ 35 by rw [nI_toInt (by omega)]; omega), if_neg (by decide), if_neg (by decide), if_neg (by decide), if_neg (by decide), if_pos (by decide), gd_of (inB_nI hc (by decide)), rd_nI (by omega), h.2.2.2.2.2.1 c hc]
theorem one_rng {d n : Nat} (hd : d < n) (hn : n ≤ 8) : 0 ≤ (nI d).toInt ∧ (nI d).toInt < (n : Int) := by rw [nI_toInt (by omega)]; omega
theorem mt3 (h : MR τ S) {d : Nat} (hd : d < sN S) : fX5_told (nI d) (nI 3) τ = some (nI (sU S d), τ) := by
  have hn := h.n
  unfold fX5_told fX5_told_b86
  rw [in_I τ (nI 3) 0 10 (p := 0) (q := 10) rfl rfl, bn1_s, if_neg (by decide), isOfO h (by omega), bn1_s, if_pos (one_rng hd hn), if_neg (by decide), if_neg (by decide), if_neg (by decide), if_neg (by decide), if_neg (by decide), gd_of (inB_nI (by omega) (by decide)), rd_nI (by omega), (h.2.2.2.2.1 d hd).2.1]
theorem mt4 (h : MR τ S) {d : Nat} (hd : d < sN S) : fX5_told (nI d) (nI 4) τ = some (enc (sA S d), τ) := by
  have hn := h.n
  unfold fX5_told fX5_told_b86
  rw [in_I τ (nI 4) 0 10 (p := 0) (q := 10) rfl rfl, bn1_s, if_neg (by decide), isOfO h (by omega), bn1_s, if_pos (one_rng hd hn), if_neg (by decide), if_pos (by decide), if_pos (by decide), if_pos (by decide), gd_of (inB_nI (by omega) (by decide)), rd_nI (by omega), (h.2.2.2.2.1 d hd).2.2]
theorem mt5 (h : MR τ S) {d : Nat} (hd : d < sN S) : fX5_told (nI d) (nI 5) τ = some (nI (sK S d), τ) := by
  have hn := h.n
  unfold fX5_told fX5_told_b86
  rw [in_I τ (nI 5) 0 10 (p := 0) (q := 10) rfl rfl, bn1_s, if_neg (by decide), isOfO h (by omega), bn1_s, if_pos (one_rng hd hn), if_neg (by decide), if_pos (by decide), if_pos (by decide), if_neg (by decide), if_pos (by decide), gd_of (inB_nI (by omega) (by decide)), rd_nI (by omega), (h.2.2.2.2.1 d hd).1]
theorem mt6 (h : MR τ S) {d : Nat} (hd : d < sN S) : fX5_told (nI d) (nI 6) τ = some (nI (whoS S (sA S d)), τ) := by
  have hn := h.n
  unfold fX5_told fX5_told_b86
  rw [in_I τ (nI 6) 0 10 (p := 0) (q := 10) rfl rfl, bn1_s, if_neg (by decide), isOfO h (by omega), bn1_s, if_pos (one_rng hd hn), if_neg (by decide), if_pos (by decide), if_pos (by decide), if_neg (by decide), if_neg (by decide), if_pos (by decide), gd_of (inB_nI (by omega) (by decide)), rd_nI (by omega), (h.2.2.2.2.1 d hd).2.2, whoIn_ok h (h.at36 hd), bn1_s]
end TM
theorem ct3 {σ : Mem} {S : FS} (h : CR σ 40 S) {k : Nat} (hk : k = 3 ∨ k = 4 ∨ k = 5 ∨ k = 6) (a : Int32) : fX4_told a (nI k) σ = if 0 ≤ a.toInt ∧ a.toInt < (sN S : Int) then bn1 (fX4_toldOfDust a (nI k) σ) fun r4 => some (r4, σ) else some (-1000, σ) := by
  unfold fX4_told
  have e : fX0_has 40 a σ = some (if 0 ≤ a.toInt ∧ a.toInt < (sN S : Int) then 1 else 0) := has_ok h a
  by_cases q : 0 ≤ a.toInt ∧ a.toInt < (sN S : Int)
  · rw [if_pos q] at e ⊢
    rcases hk with rfl | rfl | rfl | rfl <;> rw [if_neg (by decide), if_neg (by decide), if_neg (by decide), if_neg (by decide), if_neg (by decide), if_neg (by decide), e, bn1_s, if_neg (by decide), if_neg (by decide)]
  · rw [if_neg q] at e ⊢
    rcases hk with rfl | rfl | rfl | rfl <;> rw [if_neg (by decide), if_neg (by decide), if_neg (by decide), if_neg (by decide), if_neg (by decide), if_neg (by decide), e, bn1_s, if_pos (by decide)]
theorem ct7 {σ : Mem} {S : FS} (h : CR σ 40 S) {k : Nat} (hk : k = 7 ∨ k = 8 ∨ k = 9) (a : Int32) : fX4_told a (nI k) σ = if 0 ≤ a.toInt ∧ a.toInt < (sN S : Int) then bnd (fX4_toldOfGoing a (nI k) σ) fun r3 σ3 => some (r3, σ3) else some (-1000, σ) := by
  unfold fX4_told
  have e : fX0_has 40 a σ = some (if 0 ≤ a.toInt ∧ a.toInt < (sN S : Int) then 1 else 0) := has_ok h a
  by_cases q : 0 ≤ a.toInt ∧ a.toInt < (sN S : Int)
  · rw [if_pos q] at e ⊢
    rcases hk with rfl | rfl | rfl <;> rw [if_neg (by decide), if_neg (by decide), if_neg (by decide), if_neg (by decide), if_neg (by decide), if_neg (by decide), e, bn1_s, if_neg (by decide), if_pos (by decide)]
  · rw [if_neg q] at e ⊢
    rcases hk with rfl | rfl | rfl <;> rw [if_neg (by decide), if_neg (by decide), if_neg (by decide), if_neg (by decide), if_neg (by decide), if_neg (by decide), e, bn1_s, if_pos (by decide)]
theorem mtN {τ : Mem} {S : FS} (h : MR τ S) {k : Nat} (hk : k = 3 ∨ k = 4 ∨ k = 5 ∨ k = 6 ∨ k = 7 ∨ k = 8 ∨ k = 9) {a : Int32} (q : ¬ (0 ≤ a.toInt ∧ a.toInt < (sN S : Int))) : fX5_told a (nI k) τ = some (-1000, τ) := by
  unfold fX5_told
  rw [isOfO h hk, if_neg q]
  rcases hk with rfl | rfl | rfl | rfl | rfl | rfl | rfl <;> rw [in_I τ _ 0 10 (p := 0) (q := 10) rfl rfl, bn1_s, if_neg (by decide), bn1_s, if_pos rfl]
theorem mt79 {τ : Mem} {S : FS} (h : MR τ S) {k : Nat} (hk : k = 7 ∨ k = 8 ∨ k = 9) {d : Nat} (hd : d < sN S) : fX5_told (nI d) (nI k) τ = if enc (sA S d) = -1 then some (-1, τ) else if nI k = 7 then bnd (fX5_goesOf (nI d) τ) fun r15 σ15 => some (r15, σ15) else if nI k = 8 then bnd (fX5_isLoose (nI d) τ) fun r12 σ12 => if r12 = 0 then some (0, σ12) else some (1, σ12) else bnd (fX5_blownOf (nI d) τ) fun r11 σ11 => some (r11, σ11) := by
  have hn := h.n
  unfold fX5_told
  rw [isOfO h (by omega), if_pos (one_rng hd hn)]
  have g : inB (nI d) 8 = true := inB_nI (by omega) (by decide)
  rcases hk with rfl | rfl | rfl <;> rw [in_I τ _ 0 10 (p := 0) (q := 10) rfl rfl, bn1_s, if_neg (by decide), bn1_s, if_neg (by decide), if_pos (by decide), if_neg (by decide), if_neg (by decide), gd_of g, rd_nI (by omega), (h.2.2.2.2.1 d hd).2.2]
theorem st_told : St_told Rel := by
  intro a1 a2
  refine simI_st (fun σ τ S h => ?_)
  have hc := h.c; have hm := h.m; have hn := hc.n
  have same : ∀ r, fX4_told a1 a2 σ = some (r, σ) → fX5_told a1 a2 τ = some (r, τ) → ∃ r σ' τ', fX4_told a1 a2 σ = some (r, σ') ∧ fX5_told a1 a2 τ = some (r, τ') ∧ CR σ' 40 S ∧ MR τ' S ∧ PC σ σ' ∧ PM τ τ' := fun r h1 h2 => ⟨r, σ, τ, h1, h2, hc, hm, PC.rf, PM.rf⟩
  by_cases q : 0 ≤ a2.toInt ∧ a2.toInt ≤ 10
  · obtain ⟨k, hk, _, rfl⟩ := of_rng q
    rcases (show k = 0 ∨ k = 1 ∨ (k = 2 ∨ k = 10) ∨ (k = 3 ∨ k = 4 ∨ k = 5 ∨ k = 6) ∨ (k = 7 ∨ k = 8 ∨ k = 9) by omega) with rfl | rfl | hk | hk | hk
    · exact same (nI (sW S)) (by unfold fX4_told; rw [if_pos (by decide), hc.2.2.1]) (mt0 hm a1)
    · exact same (nI (sF S)) (by unfold fX4_told; rw [if_neg (by decide), if_pos (by decide), hc.2.2.2.1]) (mt1 hm a1)
    · by_cases q1 : 0 ≤ a1.toInt ∧ a1.toInt ≤ 35
      · obtain ⟨c, hc36, _, rfl⟩ := of_rng q1
        rcases hk with rfl | rfl
        · refine same (if sC S c then 1 else 0) ?_ (mt2 hm (by omega))
          unfold fX4_told fX4_toldOfCell
          rw [if_neg (by decide), if_neg (by decide), if_pos (by decide), isCell4, if_pos q1, bn1_s, if_neg (by decide), if_neg (by decide), isCracked_ok hc (by omega), bn1_s]
          by_cases z : sC S c = true
          · rw [if_pos z]; rfl
          · rw [if_neg z]; rfl
        · have e1 : fX0_thoseIn 40 (nI c) σ = some (nI (whoS S (some c))) := thoseIn_ok hc (o := some c) (fun x hx => by cases hx; omega)
          have e2 : fX5_whoIn (nI c) τ = some (nI (whoS S (some c))) := whoIn_ok hm (o := some c) (fun x hx => by cases hx; omega)
          refine same (nI (whoS S (some c))) ?_ ?_
          · unfold fX4_told fX4_toldOfCell
            rw [if_neg (by decide), if_neg (by decide), if_neg (by decide), if_pos (by decide), isCell4, if_pos q1, bn1_s, if_neg (by decide), if_pos (by decide), e1]
            rfl
          · unfold fX5_told fX5_told_b86
            rw [in_I τ (nI 10) 0 10 (p := 0) (q := 10) rfl rfl, bn1_s, if_neg (by decide), isOfC τ (Or.inr rfl), bn1_s, if_pos q1, if_neg (by decide), if_pos (by decide), if_neg (by decide), if_pos (by decide), if_neg (by decide), if_neg (by decide), if_neg (by decide), e2]
            rfl
      · refine same (-1000) ?_ ?_
        · unfold fX4_told fX4_toldOfCell
          rw [isCell4, if_neg q1]
          rcases hk with rfl | rfl
          · rw [if_neg (by decide), if_neg (by decide), if_pos (by decide)]; rfl
          · rw [if_neg (by decide), if_neg (by decide), if_neg (by decide), if_pos (by decide)]; rfl
        · unfold fX5_told
          rw [isOfC τ hk, if_neg q1, in_I τ _ 0 10 (p := 0) (q := 10) rfl rfl, bn1_s, if_pos q, if_neg (by decide)]
          rfl
    · by_cases q1 : 0 ≤ a1.toInt ∧ a1.toInt < (sN S : Int)
      · obtain ⟨d, hd, rfl⟩ := of_one q1 (by omega)
        have hx := ct3 hc hk (nI d)
        rw [if_pos q1] at hx
        have g : inB (nI d) 8 = true := inB_nI (by omega) (by decide)
        have hcd := hc.2.2.2.2.1 d hd
        rcases hk with rfl | rfl | rfl | rfl
        · exact same _ (by rw [hx]; unfold fX4_toldOfDust; rw [if_pos (by decide), gd_of g, bn1_s, rd_nI (by omega), hcd.2.1]) (mt3 hm hd)
        · exact same _ (by rw [hx]; unfold fX4_toldOfDust; rw [if_neg (by decide), if_pos (by decide), gd_of g, bn1_s, rd_nI (by omega), hcd.2.2]) (mt4 hm hd)
        · exact same _ (by rw [hx]; unfold fX4_toldOfDust; rw [if_neg (by decide), if_neg (by decide), if_pos (by decide), gd_of g, bn1_s, rd_nI (by omega), hcd.1]) (mt5 hm hd)
        · exact same _ (by rw [hx]; unfold fX4_toldOfDust; rw [if_neg (by decide), if_neg (by decide), if_neg (by decide), gd_of g, rd_nI (by omega), hcd.2.2, thoseIn_ok hc (hc.at36 hd)]; rfl) (mt6 hm hd)
      · exact same (-1000) (by rw [ct3 hc hk, if_neg q1]) (mtN hm (by omega) q1)
    · by_cases q1 : 0 ≤ a1.toInt ∧ a1.toInt < (sN S : Int)
      · obtain ⟨d, hd, rfl⟩ := of_one q1 (by omega)
        have hx := ct7 hc hk (nI d)
        have hy := mt79 hm hk hd
        rw [if_pos q1] at hx
        unfold fX4_toldOfGoing at hx
        rw [isIn_ok hc hd, bn1_s] at hx
        cases hA : sA S d with
        | none =>
          rw [hA, if_pos rfl, if_pos rfl] at hx
          rw [hA, if_pos (show enc none = -1 from rfl)] at hy
          exact same (-1) (by rw [hx]; rfl) hy
        | some c =>
          have hc36 := hc.at36 hd c hA
          rw [hA, if_neg (fun z => by cases z)] at hx
          rw [hA, if_neg (fun z => by have := (enc_none (a := some c) (fun x hx => by cases hx; exact hc36)).mp z; cases this)] at hy
          rcases hk with rfl | rfl | rfl
          · obtain ⟨σ', f1, f2⟩ := far_ok fl40 hc hd hA
            obtain ⟨τ', f3, f4⟩ := goesOf_ok hm hd hA
            rw [if_pos (by decide), f1] at hx
            rw [if_pos (by decide), f3] at hy
            exact ⟨_, σ', τ', hx, hy, hc.sq fl40 f2, hm.sy f4 (.inl rfl), f2.pc, f4.pm (.inl rfl)⟩
          · obtain ⟨σ', f1, f2⟩ := isFree_ok fl40 hc hd hA
            obtain ⟨τ', f3, f4⟩ := isLoose_ok hm hd hA
            rw [if_neg (by decide), if_pos (by decide), f1] at hx
            rw [if_neg (by decide), if_pos (by decide), f3] at hy
            refine ⟨if freeS S d c then 1 else 0, σ', τ', ?_, ?_, hc.sq fl40 f2, hm.sy f4 (.inl rfl), f2.pc, f4.pm (.inl rfl)⟩
            · rw [hx]; cases freeS S d c <;> rfl
            · rw [hy]; cases freeS S d c <;> rfl
          · obtain ⟨σ', f1, f2⟩ := way_ok fl40 hc hd hA
            obtain ⟨τ', f3, f4⟩ := blownOf_ok hm hd hA
            rw [if_neg (by decide), if_neg (by decide), f1] at hx
            rw [if_neg (by decide), if_neg (by decide), f3] at hy
            exact ⟨_, σ', τ', hx, hy, hc.sq fl40 f2, hm.sy f4 (.inl rfl), f2.pc, f4.pm (.inl rfl)⟩
      · exact same (-1000) (by rw [ct7 hc hk, if_neg q1]) (mtN hm (by omega) q1)
  · refine same (-1000) ?_ ?_
    · unfold fX4_told
      rw [if_neg (fun e => q (by subst e; decide)), if_neg (fun e => q (by subst e; decide)), if_neg (fun e => q (by subst e; decide)), if_neg (fun e => q (by subst e; decide))]
      by_cases z : a2 < 3
      · rw [if_pos z]
      · rw [if_neg z, if_pos]
        have z' : ¬ a2.toInt < (3 : Int32).toInt := fun y => z (Int32.lt_iff_toInt_lt.mpr y)
        have e3 : (3 : Int32).toInt = 3 := rfl
        have e10 : (10 : Int32).toInt = 10 := rfl
        exact Int32.lt_iff_toInt_lt.mpr (by omega)
    · unfold fX5_told
      rw [in_I τ a2 0 10 (p := 0) (q := 10) rfl rfl, bn1_s, if_neg q, if_pos rfl]
