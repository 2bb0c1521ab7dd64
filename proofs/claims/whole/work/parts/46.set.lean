/-! ===== the calls: set, force, count, share, taken ===== -/
section LAYS
variable {τ : Mem} {S : FS}
theorem ml0 (h : MR τ S) (a : Int32) {w : Nat} (hw : w ≤ 1100) : ∃ τ', fX5_lays (nI 0) a (nI w) τ = some τ' ∧ MR τ' (setW S w) ∧ PM τ τ' := by
  refine ⟨putI (putI τ 0 7 (nI w)) 0 8 (nI (sF S)), ?_, (h.setW hw).setF h.1.2.2.2, (PM.rf.fld (by omega)).fld (by omega)⟩
  unfold fX5_lays fX5_lays_b18
  rw [if_neg (by decide), if_pos (by decide), stp_e, if_neg (by decide), putI_fld _ _ _ _ (by decide), h.2.2.2.1, stp_e]
theorem ml1 (h : MR τ S) (a : Int32) {f : Nat} (hf : f < 10) : ∃ τ', fX5_lays (nI 1) a (nI f) τ = some τ' ∧ MR τ' (setF S f) ∧ PM τ τ' := by
  refine ⟨putI (putI τ 0 7 (nI (sW S))) 0 8 (nI f), ?_, (h.setW h.1.2.2.1).setF hf, (PM.rf.fld (by omega)).fld (by omega)⟩
  unfold fX5_lays fX5_lays_b18
  rw [if_neg (by decide), if_neg (by decide), h.2.2.1, stp_e, if_pos (by decide), stp_e]
theorem ml2 (h : MR τ S) {c : Nat} (hc : c < 36) {x : Int32} {v : Bool} (hx : x = if v then 1 else 0) : ∃ τ', fX5_lays (nI 2) (nI c) x τ = some τ' ∧ MR τ' (setC1 S c v) ∧ PM τ τ' := by
  refine ⟨putI τ 4 c x, ?_, h.setC1 hx, PM.rf.put (by omega)⟩
  unfold fX5_lays
  rw [if_pos (by decide), if_pos (by decide), gd_of (inB_nI hc (by decide)), stp_e, wr_nI (by omega)]
theorem ml3 (h : MR τ S) {d : Nat} (hd : d < sN S) {u : Nat} (hu : u < 10) : ∃ τ', fX5_lays (nI 3) (nI d) (nI u) τ = some τ' ∧ MR τ' (setU S d u) ∧ PM τ τ' := by
  have hn := h.n
  refine ⟨putI τ 6 d (nI u), ?_, h.setU hu, PM.rf.put (by omega)⟩
  unfold fX5_lays
  rw [if_pos (by decide), if_neg (by decide), if_pos (by decide), gd_of (inB_nI (by omega) (by decide)), stp_e, wr_nI (by omega)]
theorem ml4 (h : MR τ S) {d : Nat} (hd : d < sN S) {o : Option Nat} (ho : ∀ c, o = some c → c < 36) : ∃ τ', fX5_lays (nI 4) (nI d) (enc o) τ = some τ' ∧ MR τ' (setA1 S d o) ∧ PM τ τ' := by
  have hn := h.n
  refine ⟨putI τ 7 d (enc o), ?_, h.setA1 ho, PM.rf.put (by omega)⟩
  unfold fX5_lays
  rw [if_pos (by decide), if_neg (by decide), if_neg (by decide), if_pos (by decide), gd_of (inB_nI (by omega) (by decide)), stp_e, wr_nI (by omega)]
theorem ml5 (h : MR τ S) {d : Nat} (hd : d < sN S) {k : Nat} (hk : k < 6) : ∃ τ', fX5_lays (nI 5) (nI d) (nI k) τ = some τ' ∧ MR τ' (setK S d k) ∧ PM τ τ' := by
  have hn := h.n
  refine ⟨putI τ 5 d (nI k), ?_, h.setK hk, PM.rf.put (by omega)⟩
  unfold fX5_lays
  rw [if_pos (by decide), if_neg (by decide), if_neg (by decide), if_neg (by decide), if_pos (by decide), gd_of (inB_nI (by omega) (by decide)), stp_e, wr_nI (by omega)]
theorem ml6 (h : MR τ S) (a : Int32) {ρ : Nat} (hρ : ρ < 6) {V : Nat → (Nat → Int32) → Int32} (hV : MTS τ ρ V) : ∃ τ', fX5_lays (nI 6) a (nI ρ) τ = some τ' ∧ MR τ' (setV S V) ∧ PM τ τ' := by
  refine ⟨putI τ 0 4 (nI ρ), ?_, h.setV hρ hV, PM.rf.fld (by omega)⟩
  unfold fX5_lays
  rw [if_pos (by decide), if_neg (by decide), if_neg (by decide), if_neg (by decide), if_neg (by decide), stp_e]
end LAYS
theorem b35_ok {τ : Mem} {a1 a2 a3 : Int32} {y z : Int64} {m : Int32} (hm : fX5_mostOf a1 τ = some m) {p q : Int} (hp : y.toInt = p) (hq : m.toInt = q) (hz : z = a3.toInt64) : fX5_set_b35 a1 a2 a3 τ y z = if p ≤ a3.toInt ∧ a3.toInt ≤ q then bnd (fX5_told a2 a1 τ) fun r5 σ5 => bn1 (fX5_lays a1 a2 a3 σ5) fun σ6 => some (r5, σ6) else some (-1000, τ) := by
  subst hz
  unfold fX5_set_b35
  rw [hm, bn1_s, in_I τ a3 y m.toInt64 (p := p) (q := q) hp (by rw [Int32.toInt_toInt64]; exact hq), bn1_s]
  by_cases h : p ≤ a3.toInt ∧ a3.toInt ≤ q
  · rw [if_pos h, if_pos h, if_neg (show ¬ (1 : Int32) = 0 by decide)]
  · rw [if_neg h, if_neg h, if_pos rfl]
theorem RelS.st2 {σ τ σ' τ' : Mem} {S S' : FS} (h : RelS σ τ S) (c : CR σ' 40 S') (m : MR τ' S') (p : PC σ σ') (q : PM τ τ') (hn : sN S' = sN S) (hk : sK S' = sK S) (hw : sW S' ≤ 999) (hv : sV S' = sV S) : Rel σ' τ' := h.go c m p q (by omega) (fun d _ => by rw [hk]) hw hv
theorem st_set : St_set Rel := by
  rintro a1 a2 a3 σ τ ⟨S, h⟩
  dsimp only
  have hc := h.c; have hm := h.m; have hn := hc.n; have hw := h.w
  have same : ∀ r, fX4_set a1 a2 a3 σ = some (r, σ) → fX5_set a1 a2 a3 τ = some (r, τ) → ∃ r σ' τ', fX4_set a1 a2 a3 σ = some (r, σ') ∧ fX5_set a1 a2 a3 τ = some (r, τ') ∧ Rel σ' τ' := fun r h1 h2 => ⟨r, σ, τ, h1, h2, h.rel⟩
  by_cases q : 0 ≤ a1.toInt ∧ a1.toInt ≤ 4
  · obtain ⟨k, hk, _, rfl⟩ := of_rng q
    have hM : fX5_set (nI k) a2 a3 τ = bn1 (fX5_isOf (nI k) a2 τ) fun r2 => if r2 = 0 then some (-1000, τ) else if nI k = 4 then fX5_set_b35 (nI k) a2 a3 τ (-1) a3.toInt64 else fX5_set_b35 (nI k) a2 a3 τ 0 a3.toInt64 := by
      unfold fX5_set
      rw [in_I τ (nI k) 0 4 (p := 0) (q := 4) rfl rfl, bn1_s, if_pos q, if_neg (by decide)]
    rcases (show k = 0 ∨ k = 1 ∨ k = 2 ∨ k = 3 ∨ k = 4 by omega) with rfl | rfl | rfl | rfl | rfl
    · have hC : fX4_set (nI 0) a2 a3 σ = bnd (fX4_setWeek a3 σ) fun r10 σ10 => some (r10, σ10) := by unfold fX4_set; rw [if_pos (by decide)]
      rw [show fX5_isOf (nI 0) a2 τ = some 1 by unfold fX5_isOf; rw [if_pos (by decide)], bn1_s, if_neg (by decide), if_neg (by decide), b35_ok (m := 999) (p := 0) (q := 999) (by unfold fX5_mostOf; rw [if_pos (by decide)]) rfl rfl rfl] at hM
      unfold fX4_setWeek at hC
      rw [within_I σ a3 0 999 (p := 0) (q := 999) rfl rfl, bn1_s] at hC
      by_cases q2 : 0 ≤ a3.toInt ∧ a3.toInt ≤ 999
      · obtain ⟨v, hv, _, rfl⟩ := of_rng q2
        rw [if_pos q2, if_neg (by decide), stp_e, bnd_s, hc.2.2.1] at hC
        obtain ⟨τ', e1, e2, e3⟩ := ml0 hm a2 (w := v) (by omega)
        rw [if_pos q2, mt0 hm, bnd_s, e1, bn1_s] at hM
        exact ⟨_, _, _, hC, hM, h.st2 (hc.setW fl40 (w := v) (by omega)) e2 (PC.rf.put (by omega)) e3 rfl rfl (by show v ≤ 999; omega) rfl⟩
      · rw [if_neg q2, if_pos rfl, bnd_s] at hC
        rw [if_neg q2] at hM
        exact same _ hC hM
    · have hC : fX4_set (nI 1) a2 a3 σ = bnd (fX4_setForce a3 σ) fun r10 σ10 => some (r10, σ10) := by unfold fX4_set; rw [if_neg (by decide), if_pos (by decide)]
      rw [show fX5_isOf (nI 1) a2 τ = some 1 by unfold fX5_isOf; rw [if_pos (by decide)], bn1_s, if_neg (by decide), if_neg (by decide), b35_ok (m := 9) (p := 0) (q := 9) (by unfold fX5_mostOf; rw [if_neg (by decide), if_neg (by decide), if_neg (by decide)]) rfl rfl rfl] at hM
      unfold fX4_setForce at hC
      rw [within_I σ a3 0 9 (p := 0) (q := 9) rfl rfl, bn1_s] at hC
      by_cases q2 : 0 ≤ a3.toInt ∧ a3.toInt ≤ 9
      · obtain ⟨v, hv, _, rfl⟩ := of_rng q2
        rw [if_pos q2, if_neg (by decide), stp_e, bnd_s, hc.2.2.2.1] at hC
        obtain ⟨τ', e1, e2, e3⟩ := ml1 hm a2 (f := v) (by omega)
        rw [if_pos q2, mt1 hm, bnd_s, e1, bn1_s] at hM
        exact ⟨_, _, _, hC, hM, h.st2 (hc.setF fl40 (f := v) (by omega)) e2 (PC.rf.put (by omega)) e3 rfl rfl hw rfl⟩
      · rw [if_neg q2, if_pos rfl, bnd_s] at hC
        rw [if_neg q2] at hM
        exact same _ hC hM
    · have hC : fX4_set (nI 2) a2 a3 σ = bnd (fX4_setCrack a2 a3 σ) fun r10 σ10 => some (r10, σ10) := by unfold fX4_set; rw [if_neg (by decide), if_neg (by decide), if_pos (by decide)]
      rw [isOfC τ (Or.inl rfl), bn1_s, if_neg (show ¬ nI 2 = 4 by decide), b35_ok (m := 1) (p := 0) (q := 1) (by unfold fX5_mostOf; rw [if_neg (by decide), if_pos (by decide)]) rfl rfl rfl] at hM
      unfold fX4_setCrack at hC
      rw [isCell4, bn1_s, within_I σ a3 0 1 (p := 0) (q := 1) rfl rfl, bn1_s] at hC
      by_cases q1 : 0 ≤ a2.toInt ∧ a2.toInt ≤ 35
      · obtain ⟨c, hc36, _, rfl⟩ := of_rng q1
        have hc36 : c < 36 := by omega
        rw [if_pos q1, if_neg (show ¬ (1 : Int32) = 0 by decide)] at hC hM
        by_cases q2 : 0 ≤ a3.toInt ∧ a3.toInt ≤ 1
        · obtain ⟨v, hv, _, rfl⟩ := of_rng q2
          rw [if_pos q2, if_neg (show ¬ (1 : Int32) = 0 by decide), isCracked_ok hc hc36, bn1_s] at hC
          rw [if_pos q2, mt2 hm hc36, bnd_s] at hM
          have hC2 : fX4_set (nI 2) (nI c) (nI v) σ = bnd (fX4_setCrack_b36 (nI c) (nI v) σ (if sC S c then 1 else 0)) fun r10 σ10 => some (r10, σ10) := by
            rw [hC]
            by_cases z : sC S c = true
            · rw [if_pos z, if_neg (by decide)]
            · rw [if_neg z, if_pos rfl]
          unfold fX4_setCrack_b36 at hC2
          rcases (show v = 0 ∨ v = 1 by omega) with rfl | rfl
          · rw [if_neg (by decide), stp_e, bnd_s] at hC2
            obtain ⟨τ', e1, e2, e3⟩ := ml2 hm hc36 (x := nI 0) (v := false) rfl
            rw [e1, bn1_s] at hM
            exact ⟨_, _, _, hC2, hM, h.st2 (crackOff fl40 hc hc36) e2 (PC.rf.putl (by omega)) e3 rfl rfl hw rfl⟩
          · rw [if_pos (by decide), stp_e, bnd_s] at hC2
            obtain ⟨τ', e1, e2, e3⟩ := ml2 hm hc36 (x := nI 1) (v := true) rfl
            rw [e1, bn1_s] at hM
            exact ⟨_, _, _, hC2, hM, h.st2 (crackOn fl40 hc hc36) e2 (PC.rf.putl (by omega)) e3 rfl rfl hw rfl⟩
        · rw [if_neg q2, if_pos rfl, bnd_s] at hC
          rw [if_neg q2] at hM
          exact same _ hC hM
      · rw [if_neg q1, if_pos rfl] at hC hM
        exact same _ hC hM
    · have hC : fX4_set (nI 3) a2 a3 σ = bnd (fX4_setNumber a2 a3 σ) fun r10 σ10 => some (r10, σ10) := by unfold fX4_set; rw [if_neg (by decide), if_neg (by decide), if_neg (by decide), if_pos (by decide)]
      rw [isOfO hm (Or.inl rfl), bn1_s, if_neg (show ¬ nI 3 = 4 by decide), b35_ok (m := 9) (p := 0) (q := 9) (by unfold fX5_mostOf; rw [if_neg (by decide), if_neg (by decide), if_neg (by decide)]) rfl rfl rfl] at hM
      unfold fX4_setNumber at hC
      rw [has_ok hc, bn1_s, within_I σ a3 0 9 (p := 0) (q := 9) rfl rfl, bn1_s] at hC
      by_cases q1 : 0 ≤ a2.toInt ∧ a2.toInt < (sN S : Int)
      · obtain ⟨d, hd, rfl⟩ := of_one q1 (by omega)
        rw [if_pos q1, if_neg (show ¬ (1 : Int32) = 0 by decide)] at hC hM
        have g : inB (nI d) 8 = true := inB_nI (by omega) (by decide)
        by_cases q2 : 0 ≤ a3.toInt ∧ a3.toInt ≤ 9
        · obtain ⟨v, hv, _, rfl⟩ := of_rng q2
          rw [if_pos q2, if_neg (show ¬ (1 : Int32) = 0 by decide), gd_of g, gd_of g, stp_e, bnd_s, rd_nI (by omega), wr_nI (by omega), (hc.2.2.2.2.1 d hd).2.1] at hC
          obtain ⟨τ', e1, e2, e3⟩ := ml3 hm hd (u := v) (by omega)
          rw [if_pos q2, mt3 hm hd, bnd_s, e1, bn1_s] at hM
          exact ⟨_, _, _, hC, hM, h.st2 (hc.setU fl40 (d := d) (k := v) (by omega)) e2 (PC.rf.put (by omega)) e3 rfl rfl hw rfl⟩
        · rw [if_neg q2, if_pos rfl, bnd_s] at hC
          rw [if_neg q2] at hM
          exact same _ hC hM
      · rw [if_neg q1, if_pos rfl] at hC hM
        exact same _ hC hM
    · have hC : fX4_set (nI 4) a2 a3 σ = bnd (fX4_setPlace a2 a3 σ) fun r10 σ10 => some (r10, σ10) := by unfold fX4_set; rw [if_neg (by decide), if_neg (by decide), if_neg (by decide), if_neg (by decide), if_pos (by decide)]
      rw [isOfO hm (Or.inr (Or.inl rfl)), bn1_s, if_pos (show nI 4 = 4 by decide), b35_ok (m := 35) (p := -1) (q := 35) (by unfold fX5_mostOf; rw [if_neg (by decide), if_neg (by decide), if_pos (by decide)]) rfl rfl rfl] at hM
      unfold fX4_setPlace at hC
      rw [has_ok hc, bn1_s, isCell4, bn1_s] at hC
      by_cases q1 : 0 ≤ a2.toInt ∧ a2.toInt < (sN S : Int)
      · obtain ⟨d, hd, rfl⟩ := of_one q1 (by omega)
        rw [if_pos q1, if_neg (show ¬ (1 : Int32) = 0 by decide)] at hC hM
        have g : inB (nI d) 8 = true := inB_nI (by omega) (by decide)
        have key : ∀ o : Option Nat, a3 = enc o → (∀ c, o = some c → c < 36) → fX4_set (nI 4) (nI d) a3 σ = some (enc (sA S d), putI σ 43 d (enc o)) → ∃ r σ' τ', fX4_set (nI 4) (nI d) a3 σ = some (r, σ') ∧ fX5_set (nI 4) (nI d) a3 τ = some (r, τ') ∧ Rel σ' τ' := fun o ho ho2 hC => by
          obtain ⟨τ', e1, e2, e3⟩ := ml4 hm hd ho2
          have hr : -1 ≤ a3.toInt ∧ a3.toInt ≤ 35 := by
            rw [ho]
            cases o with
            | none => exact ⟨by decide, by decide⟩
            | some c =>
              have := ho2 c rfl
              rw [show enc (some c) = nI c from rfl, nI_toInt (by omega)]
              omega
          rw [if_pos hr, mt4 hm hd, bnd_s, ho, e1, bn1_s] at hM
          exact ⟨_, _, _, hC, by rw [ho]; exact hM, h.st2 (hc.setA1 fl40 (d := d) ho2) e2 (PC.rf.put (by omega)) e3 rfl rfl hw rfl⟩
        by_cases q3 : a3 = -1
        · rw [if_pos q3, gd_of g, gd_of g, stp_e, bnd_s, rd_nI (by omega), wr_nI (by omega), (hc.2.2.2.2.1 d hd).2.2, q3] at hC
          exact key none q3 (fun c hc => by cases hc) (by rw [q3]; exact hC)
        · rw [if_neg q3] at hC
          by_cases q2 : 0 ≤ a3.toInt ∧ a3.toInt ≤ 35
          · obtain ⟨v, hv, _, rfl⟩ := of_rng q2
            rw [if_pos q2, if_neg (show ¬ (1 : Int32) = 0 by decide), gd_of g, gd_of g, stp_e, bnd_s, rd_nI (by omega), wr_nI (by omega), (hc.2.2.2.2.1 d hd).2.2] at hC
            exact key (some v) rfl (fun c hc => by cases hc; omega) hC
          · rw [if_neg q2, if_pos rfl, bnd_s] at hC
            rw [if_neg (fun z => by
              by_cases y : a3.toInt = -1
              · exact q3 (Int32.toInt_inj.mp (by rw [y]; rfl))
              · exact q2 (by omega))] at hM
            exact same _ hC hM
      · rw [if_neg q1, if_pos rfl] at hC hM
        exact same _ hC hM
  · refine same (-1000) ?_ ?_
    · unfold fX4_set
      rw [if_neg (fun e => q (by subst e; decide)), if_neg (fun e => q (by subst e; decide)), if_neg (fun e => q (by subst e; decide)), if_neg (fun e => q (by subst e; decide)), if_neg (fun e => q (by subst e; decide))]
    · unfold fX5_set
      rw [in_I τ a1 0 4 (p := 0) (q := 4) rfl rfl, bn1_s, if_neg q, if_pos rfl]
theorem c_rule {σ : Mem} {b : Nat} {S : FS} (h : CR σ b S) : σ.1 b 6 = sV S 3 (fun _ => 0) := by
  obtain ⟨_, _, _, _, _, _, ρ, _, h6, h7⟩ := h
  exact h6.trans h7.1.symm
theorem m_rule {τ : Mem} {S : FS} (h : MR τ S) : τ.1 0 4 = sV S 3 (fun _ => 0) := by
  obtain ⟨_, _, _, _, _, _, ρ, _, h6, h7⟩ := h
  exact h6.trans h7.1.symm
theorem st_force : St_force Rel := by
  rintro a1 σ τ ⟨S, h⟩
  dsimp only
  obtain ⟨T, VV, hc, hm, hw, ⟨ρ0, hρ0, hV0⟩, hr⟩ := h
  obtain ⟨t1, t2, t3, t4, t5⟩ := hr.1
  have rel0 : Rel σ τ := ⟨S, T, VV, hc, hm, hw, ⟨ρ0, hρ0, hV0⟩, hr⟩
  unfold fX4_force fX5_force
  rw [t3, t4, within_I σ a1 0 (nI T - 1) (p := 0) (q := (T : Int) - 1) rfl (nI_m1 (by omega)), in_I τ a1 0 ((nI T - 1).toInt64) (p := 0) (q := (T : Int) - 1) rfl (by rw [Int32.toInt_toInt64]; exact nI_m1 (by omega)), bn1_s, bn1_s]
  by_cases q : 0 ≤ a1.toInt ∧ a1.toInt ≤ (T : Int) - 1
  · obtain ⟨ρ, hρ, _, rfl⟩ := of_rng q
    rw [if_pos q, if_neg (by decide), if_neg (by decide), stp_e, stp_e, c_rule hc, m_rule hm]
    obtain ⟨v1, v2⟩ := t5 ρ (by omega)
    exact ⟨_, _, _, rfl, rfl, setV S (VV ρ), T, VV, hc.setV fl40 (by omega) v1, hm.setV (by omega) v2, hw, ⟨ρ, by omega, rfl⟩, hr.go (PC.rf.put (by omega)) (PM.rf.fld (by omega)) (Nat.le_refl _) (fun _ _ => rfl)⟩
  · rw [if_neg q, if_pos rfl, if_pos rfl]
    exact ⟨-2, σ, τ, rfl, rfl, rel0⟩
theorem count_loop {τ : Mem} {S : FS} (h : MR τ S) (a : Int32) : loopN (fX5_count_L19 a τ) 1000 (0, 0) = fX5_count_b40 a τ (nI (cnt (sC S) 36)) := by
  have := loop_up (b := fX5_count_L19 a τ) (fun i => (nI (cnt (sC S) i), nI i)) (fX5_count_b40 a τ (nI (cnt (sC S) 36))) 36 (fun i hi ih => by
    unfold fX5_count_L19
    dsimp only
    rw [if_neg (show ¬ (36 : Int32) ≤ nI i from nI_ge (b := 36) (by omega) (by omega)), gd_of (inB_nI hi (by decide)), rd_nI (by omega), h.2.2.2.2.2.1 i hi, nI_1]
    simp only [cnt]
    by_cases q : sC S i = true
    · rw [if_pos q, if_pos q, nI_1]
    · rw [if_neg q, if_neg q, show ∀ z, nI z + 0 = nI (z + 0) from fun z => nI_add z 0]) (fun ih => by
    unfold fX5_count_L19
    dsimp only
    rw [if_pos (show (36 : Int32) ≤ nI 36 by decide)]) 1000 0 (Nat.zero_le _) (by omega)
  exact this
theorem st_count : St_count Rel := by
  rintro a1 σ τ ⟨S, h⟩
  dsimp only
  suffices hh : ∃ r, fX4_count a1 σ = some r ∧ fX5_count a1 τ = some r by
    obtain ⟨r, h1, h2⟩ := hh
    exact ⟨r, σ, τ, by rw [h1]; rfl, by rw [h2]; rfl, h.rel⟩
  obtain ⟨T, VV, hc, hm, hw, ⟨ρ0, hρ0, hV0⟩, hr⟩ := h
  obtain ⟨⟨t1, t2, t3, t4, t5⟩, ⟨n, n1, n2, n3, n4⟩, _⟩ := hr
  have e1 : fJ13_bitCount_95d88 (σ.2 40 3) σ = some (nI (cnt (sC S) 36)) := by
    rw [bitCount_LB hc.lb (fun i hi _ => by rw [decide_eq_false (by omega), Bool.false_and]), cnt_congr (q := sC S) 36 (fun i hi => by rw [decide_eq_true hi, Bool.true_and])]
  unfold fX4_count fX5_count
  rw [count_loop hm, in_I τ a1 0 5 (p := 0) (q := 5) rfl rfl, bn1_s, e1, bn1_s]
  by_cases q : 0 ≤ a1.toInt ∧ a1.toInt ≤ 5
  · obtain ⟨k, hk, _, rfl⟩ := of_rng q
    rw [if_pos q, if_neg (show ¬ (1 : Int32) = 0 by decide)]
    unfold fX5_count_b40
    rcases (show k = 0 ∨ k = 1 ∨ k = 2 ∨ k = 3 ∨ k = 4 ∨ k = 5 by omega) with rfl | rfl | rfl | rfl | rfl | rfl
    · exact ⟨_, by rw [if_pos (by decide), hc.2.1], by rw [if_pos (by decide), hm.2.1]⟩
    · exact ⟨_, by rw [if_neg (by decide), if_pos (by decide)], by rw [if_neg (by decide), if_pos (by decide)]⟩
    · exact ⟨_, by rw [if_neg (by decide), if_neg (by decide), if_pos (by decide), hc.2.2.1], by rw [if_neg (by decide), if_neg (by decide), if_pos (by decide), hm.2.2.1]⟩
    · exact ⟨_, by rw [if_neg (by decide), if_neg (by decide), if_neg (by decide), if_pos (by decide), t3], by rw [if_neg (by decide), if_neg (by decide), if_neg (by decide), if_pos (by decide), t4]⟩
    · exact ⟨_, by rw [if_neg (by decide), if_neg (by decide), if_neg (by decide), if_neg (by decide), if_pos (by decide), n2], by rw [if_neg (by decide), if_neg (by decide), if_neg (by decide), if_neg (by decide), if_pos (by decide), n3]⟩
    · exact ⟨_, by rw [if_neg (by decide), if_neg (by decide), if_neg (by decide), if_neg (by decide), if_neg (by decide), if_pos (by decide), c_rule hc], by rw [if_neg (by decide), if_neg (by decide), if_neg (by decide), if_neg (by decide), if_neg (by decide), m_rule hm]⟩
  · rw [if_neg q, if_pos rfl]
    refine ⟨-2, ?_, rfl⟩
    rw [if_neg (fun e => q (by subst e; decide)), if_neg (fun e => q (by subst e; decide)), if_neg (fun e => q (by subst e; decide)), if_neg (fun e => q (by subst e; decide)), if_neg (fun e => q (by subst e; decide)), if_neg (fun e => q (by subst e; decide))]
theorem low_20 : ∀ b, b < 21 → ∀ a, a < 21 → ∀ p, p < 2 → 0 < b → fX4_lowest (nI a) (nI b) (nI p) zeroM = fX5_lowest (lN a) (lN b) (nI p) zeroM ∧ (fX5_lowest (lN a) (lN b) (nI p) zeroM).isSome = true := by decide +kernel
theorem low_ok (σ τ : Mem) {a b p : Nat} (ha : a ≤ 20) (hb : b ≤ 20) (hp : p < 2) (h0 : 0 < b) : ∃ r, fX4_lowest (nI a) (nI b) (nI p) σ = some r ∧ fX5_lowest (lN a) (lN b) (nI p) τ = some r := by
  obtain ⟨h1, h2⟩ := low_20 b (by omega) a (by omega) p hp h0
  obtain ⟨r, hr⟩ := Option.isSome_iff_exists.mp h2
  exact ⟨r, (rfl : fX4_lowest (nI a) (nI b) (nI p) σ = fX4_lowest (nI a) (nI b) (nI p) zeroM).trans (h1.trans hr), (rfl : fX5_lowest (lN a) (lN b) (nI p) τ = fX5_lowest (lN a) (lN b) (nI p) zeroM).trans hr⟩
theorem lowO (σ : Mem) (a : Int32) {b p : Int32} (h : ¬ (0 ≤ p.toInt ∧ p.toInt ≤ 1)) : fX4_lowest a b p σ = some (-4611686018427387904) := by
  unfold fX4_lowest
  by_cases q : b ≤ 0
  · rw [if_pos q]
  · rw [if_neg q, within_I σ p 0 1 (p := 0) (q := 1) rfl rfl, if_neg h, bn1_s, if_pos rfl]
theorem st_share : St_share Rel := by
  rintro a1 σ τ ⟨S, h⟩
  dsimp only
  have hc := h.c; have hm := h.m; have hn := hc.n
  suffices hh : ∃ r, fX4_share a1 σ = some r ∧ fX5_share a1 τ = some r by
    obtain ⟨r, h1, h2⟩ := hh
    exact ⟨r, σ, τ, by rw [h1]; rfl, by rw [h2]; rfl, h.rel⟩
  have ho := outS_le S
  unfold fX4_share fX5_share
  rw [outs_ok hc, bn1_s, hc.2.1, in_I τ a1 0 1 (p := 0) (q := 1) rfl rfl, bn1_s, hm.2.1, outMany_ok hm, bn1_s]
  by_cases q : 0 ≤ a1.toInt ∧ a1.toInt ≤ 1
  · obtain ⟨p, hp, _, rfl⟩ := of_rng q
    rw [if_pos q, if_neg (show ¬ (1 : Int32) = 0 by decide), if_le_lit (L := 0) (k := 0) rfl (by omega) (by decide)]
    by_cases z : sN S = 0
    · refine ⟨_, ?_, by rw [if_pos (by omega)]⟩
      unfold fX4_lowest
      rw [z, if_pos (show nI 0 ≤ 0 by decide), bn1_s]
    · obtain ⟨r, r1, r2⟩ := low_ok σ τ (a := outS S) (b := sN S) (p := p) (by omega) (by omega) (by omega) (by omega)
      refine ⟨r, by rw [r1]; rfl, ?_⟩
      rw [if_neg (by omega), nI_l (by omega), nI_l (by omega), r2]
      rfl
  · rw [if_neg q, if_pos rfl, lowO σ _ q]
    exact ⟨_, rfl, rfl⟩
/-! the kinds that one is under, itself first -/
def chn (x : Nat) : List Nat := [[0], [1, 0], [2, 0], [3, 1, 0], [4, 2, 0], [5, 0]].getD x []
theorem under_6 : ∀ x, x < 6 → ∀ k, k < 6 → fX4_isUnder (nI x) (nI k) zeroM = some (if k ∈ chn x then 1 else 0) := by decide +kernel
section TK
variable {a : Int32} {k : Nat} {τ : Mem}
theorem tk_up {y o : Int32} (h1 : ¬ y = -1) (h2 : ¬ y = nI k) (ho : fX5_over y τ = some o) (f : Nat) : loopN (fX5_taken_L33 a (nI k) τ) (f + 1) y = loopN (fX5_taken_L33 a (nI k) τ) f o := by
  show fX5_taken_L33 a (nI k) τ (loopN (fX5_taken_L33 a (nI k) τ) f) y = _
  generalize loopN (fX5_taken_L33 a (nI k) τ) f = K
  unfold fX5_taken_L33
  dsimp only
  rw [if_neg h1, if_neg h2, ho, bn1_s]
theorem tk_is (f : Nat) (hk : k < 6) : loopN (fX5_taken_L33 a (nI k) τ) (f + 1) (nI k) = gd (inB a 8) (some (rd τ 6 a)) := by
  show fX5_taken_L33 a (nI k) τ (loopN (fX5_taken_L33 a (nI k) τ) f) (nI k) = _
  generalize loopN (fX5_taken_L33 a (nI k) τ) f = K
  unfold fX5_taken_L33 fX5_taken_b51
  dsimp only
  have hne : ¬ nI k = -1 := fun z => by have := congrArg Int32.toInt z; rw [nI_toInt (by omega)] at this; simp at this
  rw [if_neg hne, if_pos rfl, if_pos rfl]
theorem tk_no (f : Nat) (hk : k < 6) : loopN (fX5_taken_L33 a (nI k) τ) (f + 1) (-1) = some (-13) := by
  show fX5_taken_L33 a (nI k) τ (loopN (fX5_taken_L33 a (nI k) τ) f) (-1) = _
  generalize loopN (fX5_taken_L33 a (nI k) τ) f = K
  unfold fX5_taken_L33 fX5_taken_b51
  dsimp only
  have hne : ¬ (-1 : Int32) = nI k := fun z => by have := congrArg Int32.toInt z; rw [nI_toInt (by omega)] at this; simp at this
  rw [if_pos rfl, if_neg hne]
theorem tk_all : ∀ x, x < 6 → k < 6 → loopN (fX5_taken_L33 a (nI k) τ) 1000 (nI x) = if k ∈ chn x then gd (inB a 8) (some (rd τ 6 a)) else some (-13) := by
  intro x hx hk
  have ne : ∀ y, y < 6 → ¬ nI y = -1 := fun y hy z => by have := congrArg Int32.toInt z; rw [nI_toInt (by omega)] at this; simp at this
  have nk : ∀ y, y < 6 → ¬ k = y → ¬ nI y = nI k := fun y hy h z => h (nI_inj (by omega) (by omega) z).symm
  rcases (show x = 0 ∨ x = 1 ∨ x = 2 ∨ x = 3 ∨ x = 4 ∨ x = 5 by omega) with rfl | rfl | rfl | rfl | rfl | rfl
  · by_cases z0 : k = 0
    · subst z0; rw [tk_is _ hk, if_pos (by decide)]
    rw [tk_up (o := -1) (ne 0 (by omega)) (nk 0 (by omega) z0) rfl]; rw [tk_no _ hk, if_neg (by simp [chn, z0])]
  · by_cases z0 : k = 1
    · subst z0; rw [tk_is _ hk, if_pos (by decide)]
    by_cases z1 : k = 0
    · subst z1; rw [tk_up (o := nI 0) (ne 1 (by omega)) (nk 1 (by omega) z0) rfl]; rw [tk_is _ hk, if_pos (by decide)]
    rw [tk_up (o := nI 0) (ne 1 (by omega)) (nk 1 (by omega) z0) rfl]; rw [tk_up (o := -1) (ne 0 (by omega)) (nk 0 (by omega) z1) rfl]; rw [tk_no _ hk, if_neg (by simp [chn, z0, z1])]
  · by_cases z0 : k = 2
    · subst z0; rw [tk_is _ hk, if_pos (by decide)]
    by_cases z1 : k = 0
    · subst z1; rw [tk_up (o := nI 0) (ne 2 (by omega)) (nk 2 (by omega) z0) rfl]; rw [tk_is _ hk, if_pos (by decide)]
    rw [tk_up (o := nI 0) (ne 2 (by omega)) (nk 2 (by omega) z0) rfl]; rw [tk_up (o := -1) (ne 0 (by omega)) (nk 0 (by omega) z1) rfl]; rw [tk_no _ hk, if_neg (by simp [chn, z0, z1])]
  · by_cases z0 : k = 3
    · subst z0; rw [tk_is _ hk, if_pos (by decide)]
    by_cases z1 : k = 1
    · subst z1; rw [tk_up (o := nI 1) (ne 3 (by omega)) (nk 3 (by omega) z0) rfl]; rw [tk_is _ hk, if_pos (by decide)]
    by_cases z2 : k = 0
    · subst z2; rw [tk_up (o := nI 1) (ne 3 (by omega)) (nk 3 (by omega) z0) rfl]; rw [tk_up (o := nI 0) (ne 1 (by omega)) (nk 1 (by omega) z1) rfl]; rw [tk_is _ hk, if_pos (by decide)]
    rw [tk_up (o := nI 1) (ne 3 (by omega)) (nk 3 (by omega) z0) rfl]; rw [tk_up (o := nI 0) (ne 1 (by omega)) (nk 1 (by omega) z1) rfl]; rw [tk_up (o := -1) (ne 0 (by omega)) (nk 0 (by omega) z2) rfl]; rw [tk_no _ hk, if_neg (by simp [chn, z0, z1, z2])]
  · by_cases z0 : k = 4
    · subst z0; rw [tk_is _ hk, if_pos (by decide)]
    by_cases z1 : k = 2
    · subst z1; rw [tk_up (o := nI 2) (ne 4 (by omega)) (nk 4 (by omega) z0) rfl]; rw [tk_is _ hk, if_pos (by decide)]
    by_cases z2 : k = 0
    · subst z2; rw [tk_up (o := nI 2) (ne 4 (by omega)) (nk 4 (by omega) z0) rfl]; rw [tk_up (o := nI 0) (ne 2 (by omega)) (nk 2 (by omega) z1) rfl]; rw [tk_is _ hk, if_pos (by decide)]
    rw [tk_up (o := nI 2) (ne 4 (by omega)) (nk 4 (by omega) z0) rfl]; rw [tk_up (o := nI 0) (ne 2 (by omega)) (nk 2 (by omega) z1) rfl]; rw [tk_up (o := -1) (ne 0 (by omega)) (nk 0 (by omega) z2) rfl]; rw [tk_no _ hk, if_neg (by simp [chn, z0, z1, z2])]
  · by_cases z0 : k = 5
    · subst z0; rw [tk_is _ hk, if_pos (by decide)]
    by_cases z1 : k = 0
    · subst z1; rw [tk_up (o := nI 0) (ne 5 (by omega)) (nk 5 (by omega) z0) rfl]; rw [tk_is _ hk, if_pos (by decide)]
    rw [tk_up (o := nI 0) (ne 5 (by omega)) (nk 5 (by omega) z0) rfl]; rw [tk_up (o := -1) (ne 0 (by omega)) (nk 0 (by omega) z1) rfl]; rw [tk_no _ hk, if_neg (by simp [chn, z0, z1])]
end TK
theorem st_taken : St_taken Rel := by
  rintro a1 a2 σ τ ⟨S, h⟩
  dsimp only
  have hc := h.c; have hm := h.m; have hn := hc.n
  suffices hh : ∃ r, fX4_taken a1 a2 σ = some r ∧ fX5_taken a1 a2 τ = some r by
    obtain ⟨r, h1, h2⟩ := hh
    exact ⟨r, σ, τ, by rw [h1]; rfl, by rw [h2]; rfl, h.rel⟩
  unfold fX4_taken fX5_taken
  rw [within_I σ a2 0 5 (p := 0) (q := 5) rfl rfl, in_I τ a2 0 5 (p := 0) (q := 5) rfl rfl, bn1_s, bn1_s, has_ok hc, isOne5 hm, bn1_s, bn1_s]
  by_cases q : 0 ≤ a2.toInt ∧ a2.toInt ≤ 5
  · obtain ⟨k, hk, _, rfl⟩ := of_rng q
    rw [if_pos q, if_neg (show ¬ (1 : Int32) = 0 by decide), if_neg (show ¬ (1 : Int32) = 0 by decide)]
    by_cases q1 : 0 ≤ a1.toInt ∧ a1.toInt < (sN S : Int)
    · obtain ⟨d, hd, rfl⟩ := of_one q1 (by omega)
      have hK := (hc.1.2.1 d hd).1
      have g : inB (nI d) 8 = true := inB_nI (by omega) (by decide)
      have eu : fX4_isUnder (nI (sK S d)) (nI k) σ = some (if k ∈ chn (sK S d) then 1 else 0) := (rfl : fX4_isUnder (nI (sK S d)) (nI k) σ = fX4_isUnder (nI (sK S d)) (nI k) zeroM).trans (under_6 _ hK k (by omega))
      have et := tk_all (a := nI d) (τ := τ) (sK S d) hK (show k < 6 by omega)
      rw [if_pos q1, if_neg (show ¬ (1 : Int32) = 0 by decide), if_neg (show ¬ (1 : Int32) = 0 by decide)]
      simp only [gd_of g] at et ⊢
      have e1 : rd σ 41 (nI d) = nI (sK S d) := by rw [rd_nI (by omega)]; exact (hc.2.2.2.2.1 d hd).1
      have e2 : rd σ 42 (nI d) = nI (sU S d) := by rw [rd_nI (by omega)]; exact (hc.2.2.2.2.1 d hd).2.1
      have e3 : rd τ 5 (nI d) = nI (sK S d) := by rw [rd_nI (by omega)]; exact (hm.2.2.2.2.1 d hd).1
      have e4 : rd τ 6 (nI d) = nI (sU S d) := by rw [rd_nI (by omega)]; exact (hm.2.2.2.2.1 d hd).2.1
      rw [e1, eu, bn1_s, e2, e3, et, e4]
      by_cases z : k ∈ chn (sK S d)
      · rw [if_pos z, if_pos z, if_neg (by decide)]; exact ⟨_, rfl, rfl⟩
      · rw [if_neg z, if_neg z, if_pos rfl]; exact ⟨_, rfl, rfl⟩
    · rw [if_neg q1, if_pos rfl, if_pos rfl]; exact ⟨_, rfl, rfl⟩
  · rw [if_neg q, if_pos rfl, if_pos rfl]; exact ⟨_, rfl, rfl⟩
