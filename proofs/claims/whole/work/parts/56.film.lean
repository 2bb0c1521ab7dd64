/-! ===== places, film, feed ===== -/
def plc (S : FS) (its : Nat → Int32) (n d c : Nat) : Bool := fo (setA1 S d (some c)) its n d c == none
theorem setA1_at (S : FS) (d : Nat) (o : Option Nat) : sA (setA1 S d o) d = o := by
  show (if d = d then o else sA S d) = o
  rw [if_pos rfl]
theorem refd_ok {σ : Mem} {k s n : Nat} (hs : s < 3) (hn : n ≤ 40) (h1 : σ.1 (32 + 2 * k) 1 = nI s) (h2 : σ.1 (32 + 2 * k) 2 = nI n) : fX4_tellingRefused (32 + 2 * k) σ = some (if n ≤ 10 then 0 else -2) := by
  unfold fX4_tellingRefused
  rw [there4 hs h1, bn1_s, if_pos rfl, h2, if_le_lit (L := 10) (k := 10) rfl (by omega) (by decide)]
  by_cases z : n ≤ 10
  · rw [if_pos z, if_pos z]
  · rw [if_neg z, if_neg z]
theorem cplaces_ok {σ : Mem} {S : FS} {k n d : Nat} {its : Nat → Int32} (hk : k < 4) (hn : n ≤ 10) (h2 : σ.1 (32 + 2 * k) 2 = nI n) (hit : ∀ i, i < n → σ.1 (33 + 2 * k) i = its i) (h : CR σ 40 S) (hd : d < sN S) : ∃ r, (bn1 (fX0_become 52 40 σ) fun σ5 => loopN (fX4_places_L50 (nI k) (nI d)) 1000 (σ5, 0, 0)) = some r ∧ (LB r.1 (fun c => decide (c < 36) && plc S its n d c) ∧ CR r.2 40 S ∧ PC σ r.2) := by
  have h8 := h.n
  obtain ⟨F, e0, c52, q⟩ := become_ok fl52 fl40 (by decide) h
  rw [e0, bn1_s]
  refine loop_in (b := fX4_places_L50 (nI k) (nI d)) (fun i v => v.2.2 = nI i ∧ LB v.2.1 (fun c => decide (c < i) && plc S its n d c) ∧ CI σ S 36 (fun c => setA1 S d (some c)) v.1) _ 36 ?_ ?_ 1000 0 (F, 0, 0) (Nat.zero_le _) (by omega) ⟨rfl, LB_0.congr (fun c _ => by simp), ⟨h.fr fl40 fl52 (by decide) q, q.pc (by omega), S, sF S, Or.inl rfl, c52⟩⟩
  · rintro i ⟨σi, x, y⟩ hi ⟨hy, hx, hI⟩
    dsimp only at hy hx hI
    subst hy
    obtain ⟨c40, pc, X, f', hX, c52⟩ := id hI
    have hY : setA1 X d (some i) = setA1 S d (some i) := by
      rcases hX with rfl | ⟨u, _, rfl⟩
      · rfl
      · exact setA_A S d _ _
    obtain ⟨r, e1, e2, e3⟩ := ci_look (T := fun c => setA1 S d (some c)) (Y := setA1 X d (some i)) (v := i) hk hn h2 hit hI (putI_FR (by omega)) (c52.setA1 fl52 (d := d) (o := some i) (fun c hc => by cases hc; exact hi)) hY hi (by rw [hY]; exact hd) (setA1_at _ _ _)
    rw [hY] at e2
    have lvm := lv_m1 (o := fo (setA1 S d (some i)) its n d i) (fo_lt hn)
    have body : ∀ ih, fX4_places_L50 (nI k) (nI d) ih (σi, x, nI i) = if r.1 = -1 then ih (r.2, x ||| ((1 : Int64) <<< ((nI i).toInt64 &&& 63)), nI (i + 1)) else ih (r.2, x, nI (i + 1)) := fun ih => by
      unfold fX4_places_L50
      dsimp only
      rw [if_neg (show ¬ (36 : Int32) ≤ nI i from nI_ge (b := 36) (by omega) (by omega)), gd_of (inB_nI (by omega) (by decide)), stp_e, wr_nI (by omega), gd_of (inB_nI hk (by decide)), clampN hk, show nI i = enc (some i) from rfl, e1, show enc (some i) = nI i from rfl, nI_1]
      rfl
    by_cases w : fo (setA1 S d (some i)) its n d i = none
    · have pv : plc S its n d i = true := by unfold plc; rw [w]; rfl
      refine ⟨_, fun ih => by rw [body, if_pos (by rw [e2]; exact lvm.mpr w)], rfl, (hx.or hi).congr (fun c _ => ?_), e3⟩
      by_cases z : c = i
      · subst z; simp [pv]
      · have : (c < i + 1) = (c < i) := by apply propext; omega
        simp [z, this]
    · have pv : plc S its n d i = false := beq_eq_false_iff_ne.mpr w
      refine ⟨_, fun ih => by rw [body, if_neg (by rw [e2]; exact fun z => w (lvm.mp z))], rfl, hx.congr (fun c _ => ?_), e3⟩
      by_cases z : c = i
      · subst z; simp [pv]
      · have : (c < i + 1) = (c < i) := by apply propext; omega
        simp [this]
  · rintro ⟨σi, x, y⟩ ⟨hy, hx, hI⟩
    dsimp only at hy hx hI
    subst hy
    refine ⟨(x, σi), fun ih => ?_, hx, hI.1, hI.2.1⟩
    unfold fX4_places_L50
    dsimp only
    rw [if_pos (show (36 : Int32) ≤ nI 36 by decide)]
theorem mplaces_ok {τ : Mem} {S : FS} {k n d : Nat} {its : Nat → Int32} (hk : k < 4) (hn : n ≤ 10) (h2 : τ.1 15 k = nI n) (hit : ∀ i, i < n → τ.1 16 (40 * k + i) = its i) (h : MR τ S) (hd : d < sN S) : ∃ r, loopN (fX5_places_L62 (nI k) (nI d)) 1000 (τ, enc (sA S d), 0, 0) = some r ∧ (LB r.1 (fun c => decide (c < 36) && plc S its n d c) ∧ MR r.2 S ∧ PM τ r.2) := by
  have h8 := h.n
  have gd8 : inB (nI d) 8 = true := inB_nI (by omega) (by decide)
  refine loop_in (b := fX5_places_L62 (nI k) (nI d)) (fun i v => v.2.2.2 = nI i ∧ v.2.1 = enc (sA S d) ∧ LB v.2.2.1 (fun c => decide (c < i) && plc S its n d c) ∧ (∃ X, MR v.1 X ∧ (X = S ∨ ∃ u, X = setA1 S d (some u))) ∧ PM τ v.1) _ 36 ?_ ?_ 1000 0 (τ, enc (sA S d), 0, 0) (Nat.zero_le _) (by omega) ⟨rfl, rfl, LB_0.congr (fun c _ => by simp), ⟨S, h, Or.inl rfl⟩, PM.rf⟩
  · rintro i ⟨τi, x0, x, y⟩ hi ⟨hy, hx0, hx, ⟨X, hm, hX⟩, hp⟩
    dsimp only at hy hx0 hx hm hp
    subst hy hx0
    have hY : setA1 X d (some i) = setA1 S d (some i) := by
      rcases hX with rfl | ⟨u, rfl⟩
      · rfl
      · exact setA_A S d _ _
    have m1 : MR (putI τi 7 d (enc (some i))) (setA1 S d (some i)) := by
      have := hm.setA1 (d := d) (o := some i) (fun c hc => by cases hc; exact hi)
      rwa [hY] at this
    have p1 : PM τ (putI τi 7 d (enc (some i))) := hp.put (by omega)
    obtain ⟨r, e1, e2, e3, e4⟩ := mfo_ok (its := its) hk hn (by rw [p1.1 15 (by decide) (by decide) (by decide) (by decide) (by decide) (by decide) (by decide)]; exact h2) (fun i hi => by rw [p1.1 16 (by decide) (by decide) (by decide) (by decide) (by decide) (by decide) (by decide)]; exact hit i hi) m1 hd (setA1_at _ _ _)
    have lvm := lv_m1 (o := fo (setA1 S d (some i)) its n d i) (fo_lt hn)
    have body : ∀ ih, fX5_places_L62 (nI k) (nI d) ih (τi, enc (sA S d), x, nI i) = if r.1 = -1 then ih (r.2, enc (sA S d), x ||| ((1 : Int64) <<< ((nI i).toInt64 &&& 63)), nI (i + 1)) else ih (r.2, enc (sA S d), x ||| 0, nI (i + 1)) := fun ih => by
      unfold fX5_places_L62
      dsimp only
      rw [if_neg (show ¬ (36 : Int32) ≤ nI i from nI_ge (b := 36) (by omega) (by omega)), gd_of gd8, stp_e, wr_nI (by omega), show nI i = enc (some i) from rfl, e1, show enc (some i) = nI i from rfl, nI_1]
      rfl
    by_cases w : fo (setA1 S d (some i)) its n d i = none
    · have pv : plc S its n d i = true := by unfold plc; rw [w]; rfl
      refine ⟨_, fun ih => by rw [body, if_pos (by rw [e2]; exact lvm.mpr w)], rfl, rfl, (hx.or hi).congr (fun c _ => ?_), ⟨_, e3, Or.inr ⟨i, rfl⟩⟩, p1.tr e4⟩
      by_cases z : c = i
      · subst z; simp [pv]
      · have : (c < i + 1) = (c < i) := by apply propext; omega
        simp [z, this]
    · have pv : plc S its n d i = false := beq_eq_false_iff_ne.mpr w
      refine ⟨_, fun ih => by rw [body, if_neg (by rw [e2]; exact fun z => w (lvm.mp z))], rfl, rfl, hx.or0.congr (fun c _ => ?_), ⟨_, e3, Or.inr ⟨i, rfl⟩⟩, p1.tr e4⟩
      by_cases z : c = i
      · subst z; simp [pv]
      · have : (c < i + 1) = (c < i) := by apply propext; omega
        simp [this]
  · rintro ⟨τi, x0, x, y⟩ ⟨hy, hx0, hx, ⟨X, hm, hX⟩, hp⟩
    dsimp only at hy hx0 hx hm hp
    subst hy hx0
    have hY : setA1 X d (sA S d) = S := by
      rcases hX with rfl | ⟨u, rfl⟩
      · exact setA_id _ d
      · rw [setA_A, setA_id]
    have m1 : MR (putI τi 7 d (enc (sA S d))) S := by
      have := hm.setA1 (d := d) (o := sA S d) (h.at36 hd)
      rwa [hY] at this
    refine ⟨(x, putI τi 7 d (enc (sA S d))), fun ih => ?_, hx, m1, hp.put (by omega)⟩
    unfold fX5_places_L62 fX5_places_b106
    dsimp only
    rw [if_pos (show (36 : Int32) ≤ nI 36 by decide), gd_of gd8, stp_e, wr_nI (by omega)]
theorem st_places : St_places Rel := by
  intro a1 a2
  refine simL_st (fun σ τ S h => ?_)
  have hc := h.c; have hm := h.m; have h8 := hc.n
  have idle : ∀ r, fX4_places a1 a2 σ = some (r, σ) → fX5_places a1 a2 τ = some (r, τ) → ∃ r σ' τ', fX4_places a1 a2 σ = some (r, σ') ∧ fX5_places a1 a2 τ = some (r, τ') ∧ CR σ' 40 S ∧ MR τ' S ∧ PC σ σ' ∧ PM τ τ' := fun r h1 h2 => ⟨r, σ, τ, h1, h2, hc, hm, PC.rf, PM.rf⟩
  by_cases q1 : 0 ≤ a1.toInt ∧ a1.toInt ≤ 3
  · obtain ⟨k, hk, _, rfl⟩ := of_rng q1
    have hk : k < 4 := by omega
    have g : inB (nI k) 4 = true := inB_nI hk (by decide)
    by_cases q2 : 0 ≤ a2.toInt ∧ a2.toInt < (sN S : Int)
    · obtain ⟨d, hd, rfl⟩ := of_one q2 (by omega)
      have gd8 : inB (nI d) 8 = true := inB_nI (by omega) (by decide)
      have hr : rd τ 7 (nI d) = enc (sA S d) := by rw [rd_nI (by omega)]; exact (hm.2.2.2.2.1 d hd).2.2
      by_cases hA : sA S d = none
      · refine idle (-4611686018427387904) ?_ ?_
        · unfold fX4_places
          rw [isSheet4, bn1_s, if_pos q1, if_neg (show ¬ (1 : Int32) = 0 by decide), isIn_ok hc hd, if_pos hA, bn1_s, if_pos rfl]
        · unfold fX5_places
          rw [isSheet5, bn1_s, if_pos q1, if_neg (show ¬ (1 : Int32) = 0 by decide), isOne5 hm, bn1_s, if_pos q2, if_neg (show ¬ (1 : Int32) = 0 by decide), gd_of gd8, hr, hA, if_pos (show enc none = -1 from rfl)]
      · have hC : fX4_places (nI k) (nI d) σ = bn1 (fX4_tellingRefused (32 + 2 * k) σ) fun r4 => if r4 = 0 then (bn1 (fX0_become 52 40 σ) fun σ5 => loopN (fX4_places_L50 (nI k) (nI d)) 1000 (σ5, 0, 0)) else some (-4611686018427387904, σ) := by
          unfold fX4_places
          rw [isSheet4, bn1_s, if_pos q1, if_neg (show ¬ (1 : Int32) = 0 by decide), isIn_ok hc hd, if_neg hA, bn1_s, if_neg (show ¬ (1 : Int32) = 0 by decide), gd_of g, clampN hk]
        have hM : fX5_places (nI k) (nI d) τ = if τ.1 13 k = 0 then some (-4611686018427387904, τ) else if τ.1 15 k ≤ 10 then loopN (fX5_places_L62 (nI k) (nI d)) 1000 (τ, enc (sA S d), 0, 0) else some (-4611686018427387904, τ) := by
          unfold fX5_places
          rw [isSheet5, bn1_s, if_pos q1, if_neg (show ¬ (1 : Int32) = 0 by decide), isOne5 hm, bn1_s, if_pos q2, if_neg (show ¬ (1 : Int32) = 0 by decide), gd_of gd8, hr, if_neg (fun z => hA ((enc_none (hm.at36 hd)).mp z)), gd_of g, gd_of g, gd_of gd8, rd_nI (σ := τ) (j := 13) (k := k) (by omega), rd_nI (σ := τ) (j := 15) (k := k) (by omega)]
        rcases h.sh hk with hmiss | ⟨s, n, b1, b2, b3, b4, b5, b6, b7, b8⟩
        · refine idle _ ?_ (by rw [hM, hmiss.2, if_pos rfl])
          rw [hC]
          unfold fX4_tellingRefused
          rw [miss4 hmiss, bn1_s, if_neg (by decide), bn1_s, if_neg (by decide)]
        · rw [refd_ok b1 b2 b3 b6, bn1_s] at hC
          rw [b4, if_neg (show ¬ (1 : Int32) = 0 by decide), b7, if_le_lit (L := 10) (k := 10) rfl (by omega) (by decide)] at hM
          by_cases n10 : n ≤ 10
          · rw [if_pos n10, if_pos rfl] at hC
            rw [if_pos n10] at hM
            obtain ⟨r, e1, e2, e3, e4⟩ := cplaces_ok (its := fun i => τ.1 16 (40 * k + i)) hk n10 b6 (fun i hi => b8 i hi) hc hd
            obtain ⟨r', f1, f2, f3, f4⟩ := mplaces_ok (its := fun i => τ.1 16 (40 * k + i)) hk n10 b7 (fun i hi => rfl) hm hd
            refine ⟨r.1, r.2, r'.2, hC.trans e1, ?_, e3, f3, e4, f4⟩
            rw [hM, f1, e2.eq f2]
          · rw [if_neg n10, if_neg (by decide)] at hC
            rw [if_neg n10] at hM
            exact idle _ hC hM
    · refine idle (-4611686018427387904) ?_ ?_
      · unfold fX4_places
        rw [isSheet4, bn1_s, if_pos q1, if_neg (show ¬ (1 : Int32) = 0 by decide), isIn_out hc q2, bn1_s, if_pos rfl]
      · unfold fX5_places
        rw [isSheet5, bn1_s, if_pos q1, if_neg (show ¬ (1 : Int32) = 0 by decide), isOne5 hm, bn1_s, if_neg q2, if_pos rfl]
  · refine idle (-4611686018427387904) ?_ ?_
    · unfold fX4_places
      rw [isSheet4, bn1_s, if_neg q1, if_pos rfl]
    · unfold fX5_places
      rw [isSheet5, bn1_s, if_neg q1, if_pos rfl]
/-! film -/
theorem byte9 : ∀ v, v < 10 → nar3 0 (nI v) = nI v := by decide +kernel
def fsm (S : FS) (d c : Nat) : Nat → Nat
  | 0 => 0
  | i + 1 => fsm S d c i + farS (setF S i) d c
theorem cfilm_ok {σ : Mem} {S : FS} {k d c : Nat} (hk : k < 4) (h : CR σ 40 S) (hd : d < sN S) (hA : sA S d = some c) : ∃ r, (bn1 (fX0_become 52 40 σ) fun σ3 => bn1 (fX2_make (32 + 2 * k) 0 10 σ3) fun σ5 => loopN (fX4_film_L49 (nI k) (nI d)) 1000 (σ5, 0, 0)) = some r ∧ (r.1 = nI (fsm S d c 10) ∧ CR r.2 40 S ∧ (∀ i, i < 10 → r.2.1 (33 + 2 * k) i = nI (farS (setF S i) d c)) ∧ r.2.1 (32 + 2 * k) 1 = nI 0 ∧ r.2.1 (32 + 2 * k) 2 = nI 10 ∧ (∀ j, scr j = false → ¬ (52 ≤ j ∧ j < 57) → j ≠ 32 + 2 * k → j ≠ 33 + 2 * k → r.2.1 j = σ.1 j) ∧ ∀ j, j ≠ 52 → r.2.2 j = σ.2 j) := by
  have h8 := h.n
  obtain ⟨s1, s2⟩ := sh_scr k hk
  obtain ⟨F, e0, c52, q⟩ := become_ok fl52 fl40 (by decide) h
  obtain ⟨G, e1, g1, g2, g3, g4, g5⟩ := make_ok F hk 0 (m := 10) (by omega)
  rw [e0, bn1_s, show (10 : Int32) = nI 10 from rfl, e1, bn1_s]
  have cG : CR G 52 S := c52.same (g4 _ (by omega) (by omega)) (g4 _ (by omega) (by omega)) (g4 _ (by omega) (by omega)) (g4 _ (by omega) (by omega)) (by rw [g5]) (fun t ht => ⟨g4 _ (by omega) (by omega), g4 _ (by omega) (by omega)⟩)
  have c40G : CR G 40 S := (h.fr fl40 fl52 (by decide) q).same (g4 _ (by omega) (by omega)) (g4 _ (by omega) (by omega)) (g4 _ (by omega) (by omega)) (g4 _ (by omega) (by omega)) (by rw [g5]) (fun t ht => ⟨g4 _ (by omega) (by omega), g4 _ (by omega) (by omega)⟩)
  have gk : inB (nI k) 4 = true := inB_nI hk (by decide)
  refine loop_in (b := fX4_film_L49 (nI k) (nI d)) (fun i v => v.2.2 = nI i ∧ v.2.1 = nI (fsm S d c i) ∧ CR v.1 40 S ∧ (∃ f', CR v.1 52 (setF S f')) ∧ (∀ j, j < i → v.1.1 (33 + 2 * k) j = nI (farS (setF S j) d c)) ∧ v.1.1 (32 + 2 * k) = G.1 (32 + 2 * k) ∧ (∀ j, scr j = false → ¬ (52 ≤ j ∧ j < 57) → j ≠ 32 + 2 * k → j ≠ 33 + 2 * k → v.1.1 j = σ.1 j) ∧ ∀ j, j ≠ 52 → v.1.2 j = σ.2 j) _ 10 ?_ ?_ 1000 0 (G, 0, 0) (Nat.zero_le _) (by omega) ⟨rfl, rfl, c40G, ⟨sF S, cG⟩, fun j hj => by omega, rfl, fun j a b c d => by rw [g4 j c d]; exact q.1 j a (fun x hx => by omega), fun j hj => by rw [g5]; exact q.2 j hj⟩
  · rintro i ⟨σi, x, y⟩ hi ⟨hy, hx, c40, ⟨f', c5⟩, hit, h32, hfr, hf2⟩
    dsimp only at hy hx c40 c5 hit h32 hfr hf2
    subst hy hx
    have h1 : CR (putI σi 52 5 (nI i)) 52 (setF S i) := c5.setF fl52 (f := i) (by omega)
    obtain ⟨σ2, e, qq⟩ := far_ok fl52 h1 hd hA
    have h3 : CR σ2 52 (setF S i) := h1.sq fl52 qq
    have hfl := farS_le (setF S i) d c h1.1 hd
    have fr : FR 52 σi σ2 := (putI_FR (j := 52) (k := 5) (v := nI i) (by omega)).tr (qq.fr 52)
    have r32 : σ2.1 (32 + 2 * k) = G.1 (32 + 2 * k) := by rw [fr.1 _ s1 (fun j hj => by omega)]; exact h32
    have r33 : σ2.1 (33 + 2 * k) = σi.1 (33 + 2 * k) := fr.1 _ s2 (fun j hj => by omega)
    have hput := put_ok σ2 (k := k) (s := 0) (n := 10) (i := i) (by decide) (by decide) (by rw [r32]; exact g2) (by rw [r32]; exact g3) hi (nI (farS (setF S i) d c))
    rw [byte9 _ (by omega)] at hput
    have P0 : ∀ j, j ≠ 33 + 2 * k → (putI σ2 (33 + 2 * k) i (nI (farS (setF S i) d c))).1 j = σ2.1 j := fun j hj => putI_row _ _ _ _ hj
    refine ⟨(putI σ2 (33 + 2 * k) i (nI (farS (setF S i) d c)), nI (fsm S d c (i + 1)), nI (i + 1)), fun ih => ?_, rfl, rfl, ?_, ⟨i, ?_⟩, fun j hj => ?_, ?_, fun j a b c d => ?_, fun j hj => ?_⟩
    · unfold fX4_film_L49
      dsimp only
      rw [if_neg (show ¬ (10 : Int32) ≤ nI i from nI_ge (b := 10) (by omega) (by omega)), stp_e, e, bnd_s, gd_of gk, clampN hk, hput, bnd_s, nI_1, nI_add]
      rfl
    · exact (c40.fr fl40 fl52 (by decide) fr).same (P0 _ (by omega)) (P0 _ (by omega)) (P0 _ (by omega)) (P0 _ (by omega)) rfl (fun t ht => ⟨P0 _ (by omega), P0 _ (by omega)⟩)
    · exact h3.same (P0 _ (by omega)) (P0 _ (by omega)) (P0 _ (by omega)) (P0 _ (by omega)) rfl (fun t ht => ⟨P0 _ (by omega), P0 _ (by omega)⟩)
    · rw [putI_at]
      by_cases z : j = i
      · subst z; rw [if_pos ⟨rfl, rfl⟩]
      · rw [if_neg (fun w => z w.2), r33]; exact hit j (by omega)
    · rw [P0 _ (by omega)]; exact r32
    · rw [P0 j d, fr.1 j a (fun x hx => by omega)]; exact hfr j a b c d
    · show σ2.2 j = _
      rw [fr.2 j hj]; exact hf2 j hj
  · rintro ⟨σi, x, y⟩ ⟨hy, hx, c40, ⟨f', c5⟩, hit, h32, hfr, hf2⟩
    dsimp only at hy hx c40 c5 hit h32 hfr hf2
    subst hy hx
    refine ⟨(nI (fsm S d c 10), σi), fun ih => ?_, rfl, c40, hit, by rw [h32]; exact g2, by rw [h32]; exact g3, hfr, hf2⟩
    unfold fX4_film_L49
    dsimp only
    rw [if_pos (show (10 : Int32) ≤ nI 10 by decide)]
theorem mfilm_ok {τ : Mem} {S : FS} {k d c : Nat} (hk : k < 4) (h : MR τ S) (hd : d < sN S) (hA : sA S d = some c) : ∃ r, (bnd (fX5_sheet (nI k) 0 10 τ) fun r3 σ3 => loopN (fX5_film_L48 (nI k) (nI d)) 1000 (σ3, σ3.1 0 8, 0, 0)) = some r ∧ (r.1 = nI (fsm S d c 10) ∧ MR r.2 S ∧ (∀ i, i < 10 → r.2.1 16 (40 * k + i) = nI (farS (setF S i) d c)) ∧ r.2.1 13 k = 1 ∧ r.2.1 14 k = nI 0 ∧ r.2.1 15 k = nI 10 ∧ (∀ j, j ≠ 0 → j < 13 → r.2.1 j = τ.1 j) ∧ (∀ i, msc i = false → i ≠ 8 → r.2.1 0 i = τ.1 0 i) ∧ ∀ e, e < 4 → e ≠ k → r.2.1 13 e = τ.1 13 e ∧ r.2.1 14 e = τ.1 14 e ∧ r.2.1 15 e = τ.1 15 e ∧ ∀ i, i < 40 → r.2.1 16 (40 * e + i) = τ.1 16 (40 * e + i)) := by
  have h8 := h.n
  obtain ⟨G, e1, g1, g2, g3, g4, g5, g6⟩ := msheet_ok τ hk (s := 0) (m := 10) (by decide) (by decide)
  rw [show (0 : Int32) = nI 0 from rfl, show (10 : Int32) = nI 10 from rfl, e1, bnd_s]
  have mG : MR G S := mr_rows h (fun j hj => g1 j (by omega))
  have hF : G.1 0 8 = nI (sF S) := mG.2.2.2.1
  have gk : inB (nI k) 4 = true := inB_nI hk (by decide)
  rw [hF]
  refine loop_in (b := fX5_film_L48 (nI k) (nI d)) (fun i v => v.2.2.2 = nI i ∧ v.2.1 = nI (sF S) ∧ v.2.2.1 = nI (fsm S d c i) ∧ (∃ f', MR v.1 (setF S f')) ∧ (∀ j, j < i → v.1.1 16 (40 * k + j) = nI (farS (setF S j) d c)) ∧ (∀ x, x < 40 * k ∨ 40 * k + 10 ≤ x → v.1.1 16 x = G.1 16 x) ∧ (∀ j, j ≠ 0 → j ≠ 16 → v.1.1 j = G.1 j) ∧ ∀ i, msc i = false → i ≠ 8 → v.1.1 0 i = τ.1 0 i) _ 10 ?_ ?_ 1000 0 (G, nI (sF S), nI 0, nI 0) (Nat.zero_le _) (by omega) ⟨rfl, rfl, rfl, ⟨sF S, mG⟩, fun j hj => by omega, fun _ _ => rfl, fun _ _ _ => rfl, fun i _ _ => by rw [g1 0 (by decide)]⟩
  · rintro i ⟨τi, x0, x, y⟩ hi ⟨hy, hx0, hx, ⟨f', hm⟩, hit, hou, hfr, hf0⟩
    dsimp only at hy hx0 hx hm hit hou hfr hf0
    subst hy hx0 hx
    have h1 : MR (putI τi 0 8 (nI i)) (setF S i) := hm.setF (f := i) (by omega)
    obtain ⟨τ2, e, qq⟩ := goesOf_ok h1 hd hA
    have h3 : MR τ2 (setF S i) := h1.sy qq (.inl rfl)
    have h4 : MR (putI τ2 16 (40 * k + i) (nI (farS (setF S i) d c))) (setF S i) := mr_rows h3 (fun j hj => putI_row _ _ _ _ (by omega))
    obtain ⟨τ5, e', qq'⟩ := goesOf_ok h4 hd hA
    have h6 : MR τ5 (setF S i) := h4.sy qq' (.inl rfl)
    have r16 : ∀ x, τ5.1 16 x = if x = 40 * k + i then nI (farS (setF S i) d c) else τi.1 16 x := fun x => by
      rw [qq'.1 16 (by decide) (by decide), putI_at, qq.1 16 (by decide) (by decide), putI_row _ _ _ _ (by decide)]
      by_cases z : x = 40 * k + i
      · rw [if_pos ⟨rfl, z⟩, if_pos z]
      · rw [if_neg (fun w => z w.2), if_neg z]
    refine ⟨(τ5, nI (sF S), nI (fsm S d c (i + 1)), nI (i + 1)), fun ih => ?_, rfl, rfl, rfl, ⟨i, h6⟩, fun j hj => ?_, fun x hx => ?_, fun j a b => ?_, fun j a b => ?_⟩
    · unfold fX5_film_L48
      dsimp only
      rw [if_neg (show ¬ (10 : Int32) ≤ nI i from nI_ge (b := 10) (by omega) (by omega)), stp_e, e, bnd_s, m40, nI_add, gd_of (inB_nI (by omega) (by decide)), stp_e, wr_nI (by omega), e', bnd_s, nI_1, nI_add]
      rfl
    · rw [r16]
      by_cases z : j = i
      · subst z; rw [if_pos rfl]
      · rw [if_neg (by omega)]; exact hit j (by omega)
    · rw [r16, if_neg (by omega)]; exact hou x hx
    · rw [qq'.1 j a a, putI_row _ _ _ _ b, qq.1 j a a, putI_row _ _ _ _ a]; exact hfr j a b
    · rw [qq'.2.1 j a, putI_row _ _ _ _ (by decide), qq.2.1 j a, putI_fld _ _ _ _ b]; exact hf0 j a b
  · rintro ⟨τi, x0, x, y⟩ ⟨hy, hx0, hx, ⟨f', hm⟩, hit, hou, hfr, hf0⟩
    dsimp only at hy hx0 hx hm hit hou hfr hf0
    subst hy hx0 hx
    have R : ∀ j, j ≠ 0 → (putI τi 0 8 (nI (sF S))).1 j = τi.1 j := fun j hj => putI_row _ _ _ _ hj
    refine ⟨(nI (fsm S d c 10), putI τi 0 8 (nI (sF S))), fun ih => ?_, rfl, hm.setF (f := sF S) h.1.2.2.2, fun i hi => ?_, ?_, ?_, ?_, fun j a b => ?_, fun i a b => ?_, fun e he hne => ⟨?_, ?_, ?_, fun i hi => ?_⟩⟩
    · unfold fX5_film_L48
      dsimp only
      rw [if_pos (show (10 : Int32) ≤ nI 10 by decide), stp_e]
    · rw [R 16 (by decide)]; exact hit i hi
    · rw [R 13 (by decide), hfr 13 (by decide) (by decide)]; exact g3
    · rw [R 14 (by decide), hfr 14 (by decide) (by decide)]; exact g4
    · rw [R 15 (by decide), hfr 15 (by decide) (by decide)]; exact g5
    · rw [R j a, hfr j a (by omega)]; exact g1 j b
    · rw [putI_fld _ _ _ _ b]; exact hf0 i a b
    · rw [R 13 (by decide), hfr 13 (by decide) (by decide)]; exact (g2 e hne).1
    · rw [R 14 (by decide), hfr 14 (by decide) (by decide)]; exact (g2 e hne).2.1
    · rw [R 15 (by decide), hfr 15 (by decide) (by decide)]; exact (g2 e hne).2.2
    · rw [R 16 (by decide), hou _ (by omega), g6, if_neg (by omega)]
theorem st_film : St_film Rel := by
  rintro a1 a2 σ τ ⟨S, h⟩
  dsimp only
  have hc := h.c; have hm := h.m; have h8 := hc.n
  have idle : ∀ r, fX4_film a1 a2 σ = some (r, σ) → fX5_film a1 a2 τ = some (r, τ) → ∃ r σ' τ', fX4_film a1 a2 σ = some (r, σ') ∧ fX5_film a1 a2 τ = some (r, τ') ∧ Rel σ' τ' := fun r h1 h2 => ⟨r, σ, τ, h1, h2, h.rel⟩
  by_cases q1 : 0 ≤ a1.toInt ∧ a1.toInt ≤ 3
  · obtain ⟨k, hk, _, rfl⟩ := of_rng q1
    have hk : k < 4 := by omega
    have g : inB (nI k) 4 = true := inB_nI hk (by decide)
    by_cases q2 : 0 ≤ a2.toInt ∧ a2.toInt < (sN S : Int)
    · obtain ⟨d, hd, rfl⟩ := of_one q2 (by omega)
      have gd8 : inB (nI d) 8 = true := inB_nI (by omega) (by decide)
      have hr : rd τ 7 (nI d) = enc (sA S d) := by rw [rd_nI (by omega)]; exact (hm.2.2.2.2.1 d hd).2.2
      cases hA : sA S d with
      | none =>
        refine idle (-2) ?_ ?_
        · unfold fX4_film
          rw [isSheet4, bn1_s, if_pos q1, if_neg (show ¬ (1 : Int32) = 0 by decide), isIn_ok hc hd, hA, if_pos rfl, bn1_s, if_pos rfl]
        · unfold fX5_film
          rw [isSheet5, bn1_s, if_pos q1, if_neg (show ¬ (1 : Int32) = 0 by decide), isOne5 hm, bn1_s, if_pos q2, if_neg (show ¬ (1 : Int32) = 0 by decide), gd_of gd8, hr, hA, if_pos (show enc none = -1 from rfl)]
      | some c =>
        have hne : ¬ sA S d = none := by rw [hA]; exact fun z => by cases z
        obtain ⟨r, e1, e2, e3, e4, e5, e6, e7, e8⟩ := cfilm_ok hk hc hd hA
        obtain ⟨r', f1, f2, f3, f4, f5, f6, f7, f8, f9, f10⟩ := mfilm_ok hk hm hd hA
        refine ⟨r.1, r.2, r'.2, ?_, ?_, S, rel_sheet h hk e3 f3 (fun j a _ b _ c d => e7 j a b c d) (fun j _ b _ => e8 j b) (fun j hj => f8 j (by omega) (by omega)) (fun i a _ _ b _ _ => f9 i a b) f10 (Or.inr ⟨0, 10, by decide, by decide, e5, f5, f6, e6, f7, fun i hi => by rw [e4 i hi, f4 i hi]⟩)⟩
        · unfold fX4_film
          rw [isSheet4, bn1_s, if_pos q1, if_neg (show ¬ (1 : Int32) = 0 by decide), isIn_ok hc hd, if_neg hne, bn1_s, if_neg (show ¬ (1 : Int32) = 0 by decide)]
          simp only [gd_of g, clampN hk]
          exact e1
        · unfold fX5_film
          rw [isSheet5, bn1_s, if_pos q1, if_neg (show ¬ (1 : Int32) = 0 by decide), isOne5 hm, bn1_s, if_pos q2, if_neg (show ¬ (1 : Int32) = 0 by decide), gd_of gd8, hr, if_neg (fun z => hne ((enc_none (hm.at36 hd)).mp z)), f1, e2, ← f2]
    · refine idle (-2) ?_ ?_
      · unfold fX4_film
        rw [isSheet4, bn1_s, if_pos q1, if_neg (show ¬ (1 : Int32) = 0 by decide), isIn_out hc q2, bn1_s, if_pos rfl]
      · unfold fX5_film
        rw [isSheet5, bn1_s, if_pos q1, if_neg (show ¬ (1 : Int32) = 0 by decide), isOne5 hm, bn1_s, if_neg q2, if_pos rfl]
  · refine idle (-2) ?_ ?_
    · unfold fX4_film
      rw [isSheet4, bn1_s, if_neg q1, if_pos rfl]
    · unfold fX5_film
      rw [isSheet5, bn1_s, if_neg q1, if_pos rfl]
/-! feed -/
theorem st_feed : St_feed Rel := by
  rintro a1 σ τ ⟨S, h⟩
  have rel0 := h.rel
  dsimp only
  obtain ⟨T, VV, hc, hm, hw, hρ, h1, ⟨n, n1, n2, n3, n4⟩, h3, h4⟩ := h
  unfold fX4_feed fX5_feed
  rw [within_I σ a1 0 255 (p := 0) (q := 255) rfl rfl, in_I τ a1 0 255 (p := 0) (q := 255) rfl rfl, bn1_s, bn1_s]
  by_cases q : 0 ≤ a1.toInt ∧ a1.toInt ≤ 255
  · obtain ⟨l, hl, _, rfl⟩ := of_rng q
    rw [if_pos q, if_neg (show ¬ (1 : Int32) = 0 by decide), if_neg (show ¬ (1 : Int32) = 0 by decide), n3, if_eq_lit (L := 160) (k := 160) rfl (by omega) (by decide)]
    unfold fX1_take
    rw [n2]
    by_cases z : n = 160
    · rw [if_pos z, if_neg (show ¬ nI n < 160 from nI_nlt (b := 160) (by omega) (by omega)), bnd_s, if_pos rfl]
      exact ⟨-4, σ, τ, rfl, rfl, rel0⟩
    · have g : inB (nI n) 160 = true := inB_nI (by omega) (by decide)
      have t1 : (putI σ 4 n (nI l)).1 3 0 = nI n := by rw [putI_row _ _ _ _ (by decide)]; exact n2
      have t2 : (putI τ 3 n (nI l)).1 0 6 = nI n := by rw [putI_row _ _ _ _ (by decide)]; exact n3
      rw [if_neg z, if_pos (show nI n < 160 from nI_lt (b := 160) (by omega) (by omega)), gd_of g, gd_of g]
      simp only [stp_e, wr_nI (show n < 2147483648 by omega), t1, t2]
      rw [bnd_s, if_neg (by decide), putI_self, putI_self, nI_1]
      have RC : ∀ j, j ≠ 3 → j ≠ 4 → (putI (putI σ 4 n (nI l)) 3 0 (nI (n + 1))).1 j = σ.1 j := fun j a b => by rw [putI_row _ _ _ _ a, putI_row _ _ _ _ b]
      have RM : ∀ j, j ≠ 0 → j ≠ 3 → (putI (putI τ 3 n (nI l)) 0 6 (nI (n + 1))).1 j = τ.1 j := fun j a b => by rw [putI_row _ _ _ _ a, putI_row _ _ _ _ b]
      have RF : ∀ k, k ≠ 6 → (putI (putI τ 3 n (nI l)) 0 6 (nI (n + 1))).1 0 k = τ.1 0 k := fun k a => by rw [putI_fld _ _ _ _ a, putI_row _ _ _ _ (by decide)]
      refine ⟨nI (n + 1), _, _, rfl, rfl, S, T, VV, ?_, ?_, hw, hρ, h1.go (by rw [RC 0 (by decide) (by decide)]) (fun t ht => ⟨RC _ (by omega) (by omega), RC _ (by omega) (by omega)⟩) (RF 3 (by decide)) (RM 1 (by decide) (by decide)) (RM 2 (by decide) (by decide)), ⟨n + 1, by omega, putI_self .., putI_self .., fun i hi => ?_⟩, fun k hk => (h3 k hk).go (RC _ (by omega) (by omega)) (RC _ (by omega) (by omega)) (by rw [RM 13 (by decide) (by decide)]) (by rw [RM 14 (by decide) (by decide)]) (by rw [RM 15 (by decide) (by decide)]) (fun i _ => by rw [RM 16 (by decide) (by decide)]), ?_⟩
      · exact hc.same (RC _ (by decide) (by decide)) (RC _ (by decide) (by decide)) (RC _ (by decide) (by decide)) (RC _ (by decide) (by decide)) rfl (fun t ht => ⟨RC _ (by omega) (by omega), RC _ (by omega) (by omega)⟩)
      · obtain ⟨m0, m1, m2, m3, m4, m5, ρ', m6, m7, m8⟩ := hm
        refine ⟨m0, by rw [RF _ (by decide)]; exact m1, by rw [RF _ (by decide)]; exact m2, by rw [RF _ (by decide)]; exact m3, fun d hd => ?_, fun c hc => by rw [RM 4 (by decide) (by decide)]; exact m5 c hc, ρ', m6, by rw [RF _ (by decide)]; exact m7, m8.mono (fun i hi => by rw [RM 1 (by decide) (by decide)]) (by rw [RM 2 (by decide) (by decide)])⟩
        rw [RM 5 (by decide) (by decide), RM 6 (by decide) (by decide), RM 7 (by decide) (by decide)]
        exact m4 d hd
      · have e1 : (putI (putI σ 4 n (nI l)) 3 0 (nI (n + 1))).1 4 i = if i = n then nI l else σ.1 4 i := by
          rw [putI_row _ _ _ _ (by decide), putI_at]
          by_cases z : i = n
          · rw [if_pos ⟨rfl, z⟩, if_pos z]
          · rw [if_neg (fun w => z w.2), if_neg z]
        have e2 : (putI (putI τ 3 n (nI l)) 0 6 (nI (n + 1))).1 3 i = if i = n then nI l else τ.1 3 i := by
          rw [putI_row _ _ _ _ (by decide), putI_at]
          by_cases z : i = n
          · rw [if_pos ⟨rfl, z⟩, if_pos z]
          · rw [if_neg (fun w => z w.2), if_neg z]
        rw [e1, e2]
        by_cases z : i = n
        · rw [if_pos z, if_pos z]; exact ⟨rfl, l, by omega, rfl⟩
        · rw [if_neg z, if_neg z]; exact n4 i (by omega)
      · rcases h4 with ⟨a, b⟩ | ⟨a, K, k1, ⟨i1, i2, i3, i4, i5, i6⟩, k3, k4, k5, k6⟩
        · exact Or.inl ⟨by rw [RC 0 (by decide) (by decide)]; exact a, by rw [RF _ (by decide)]; exact b⟩
        · exact Or.inr ⟨by rw [RC 0 (by decide) (by decide)]; exact a, K, k1.same (RC _ (by decide) (by decide)) (RC _ (by decide) (by decide)) (RC _ (by decide) (by decide)) (RC _ (by decide) (by decide)) rfl (fun t ht => ⟨RC _ (by omega) (by omega), RC _ (by omega) (by omega)⟩), ⟨by rw [RF _ (by decide)]; exact i1, by rw [RF _ (by decide)]; exact i2, by rw [RF _ (by decide)]; exact i3, fun d hd => by rw [RM 11 (by decide) (by decide), RM 12 (by decide) (by decide)]; exact i4 d hd, fun c hc => by rw [RM 10 (by decide) (by decide)]; exact i5 c hc, by rw [RF _ (by decide)]; exact i6⟩, k3, k4, k5, k6⟩
  · rw [if_neg q, if_pos rfl, if_pos rfl]
    exact ⟨-2, σ, τ, rfl, rfl, rel0⟩
