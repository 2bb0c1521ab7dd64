theorem sh36 : ∀ c, c < 36 → ((nI c).toInt64.toUInt64 &&& Int64.toUInt64 63).toBitVec % 64#64 = BitVec.ofNat 64 c := by decide +kernel
theorem crk_v (x : Int64) {c : Nat} (hc : c < 36) : ((x.toUInt64 >>> ((nI c).toInt64.toUInt64 &&& Int64.toUInt64 63)).toInt64) &&& 1 = if x.toBitVec.getLsbD c then 1 else 0 := by
  apply Int64.toBitVec_inj.mp
  show ((x.toBitVec >>> (((nI c).toInt64.toUInt64 &&& Int64.toUInt64 63).toBitVec % 64#64)) &&& 1#64) = _
  rw [sh36 c hc]
  have e : (x.toBitVec >>> BitVec.ofNat 64 c) &&& 1#64 = if x.toBitVec.getLsbD c then 1#64 else 0#64 := by
    apply BitVec.eq_of_getLsbD_eq
    intro i hi
    rw [BitVec.getLsbD_and, BitVec.ushiftRight_eq', BitVec.getLsbD_ushiftRight]
    have hm : (BitVec.ofNat 64 c).toNat = c := by simp; omega
    rw [hm]
    by_cases h0 : i = 0
    · subst h0
      cases h : x.toBitVec.getLsbD c <;> simp [h]
    · have h1 : (1#64).getLsbD i = false := by simp [h0]
      rw [h1, Bool.and_false]
      split <;> simp [h0]
  rw [e]
  split <;> rfl
theorem isCracked_ok {σ : Mem} {b : Nat} {S : FS} (h : CR σ b S) {c : Nat} (hc : c < 36) : fX0_isCracked b (nI c) σ = some (if sC S c then 1 else 0) := by
  unfold fX0_isCracked
  rw [crk_v _ hc, h.2.2.2.2.2.1 c (by omega), decide_eq_true hc, Bool.true_and]
  cases sC S c <;> rfl
theorem cl9_nI (v : Int32) : (if v.toInt < 0 then (0 : Int32) else if 9 < v.toInt then 9 else v) = nI (cl9 v) := by
  unfold cl9
  split
  · rfl
  · split
    · rfl
    · rename_i h1 h2
      apply Int32.toInt_inj.mp
      rw [nI_toInt (by omega)]
      omega
theorem bounded_ok (v : Int32) (σ : Mem) : fX0_bounded v σ = some (nI (cl9 v)) := by
  unfold fX0_bounded
  rw [← cl9_nI]
  congr 1
  have h0 : (0 : Int32).toInt = 0 := rfl
  have h9 : (9 : Int32).toInt = 9 := rfl
  by_cases h1 : v < 9
  · rw [if_pos h1]
    have h1' := Int32.lt_iff_toInt_lt.mp h1
    by_cases h2 : 0 < v
    · have h2' := Int32.lt_iff_toInt_lt.mp h2
      rw [if_pos h2, if_neg (by omega), if_neg (by omega)]
    · have h2' : ¬ (0 : Int32).toInt < v.toInt := fun q => h2 (Int32.lt_iff_toInt_lt.mpr q)
      rw [if_neg h2]
      split
      · rfl
      · rw [if_neg (by omega)]
        apply Int32.toInt_inj.mp
        omega
  · have h1' : ¬ v.toInt < (9 : Int32).toInt := fun q => h1 (Int32.lt_iff_toInt_lt.mpr q)
    rw [if_neg h1, if_pos (by decide), if_neg (by omega)]
    split
    · rfl
    · apply Int32.toInt_inj.mp
      omega
theorem rem_toI (a : Int32) {k : Int32} {n : Int} (hk : k.toInt = n) (h1 : 1 < n) (h2 : n < 1000) : (a - a / k * k).toInt = a.toInt.tmod n := by
  have la := Int32.le_toInt a
  have lb := Int32.toInt_lt a
  have e1 : (a / k).toInt = a.toInt.tdiv n := by
    rw [Int32.toInt_div, hk]
    have hb : (a.toInt.tdiv n).natAbs ≤ a.toInt.natAbs := by
      rw [Int.natAbs_tdiv]
      exact Nat.div_le_self _ _
    by_cases hz : a.toInt.tdiv n = 2147483648
    · exfalso
      have : (a.toInt.tdiv n).natAbs * 2 ≤ a.toInt.natAbs := by
        rw [Int.natAbs_tdiv]
        change a.toInt.natAbs / n.natAbs * 2 ≤ a.toInt.natAbs
        have : a.toInt.natAbs / n.natAbs ≤ a.toInt.natAbs / 2 := Nat.div_le_div_left (by omega) (by decide)
        omega
      omega
    · apply Int.bmod_eq_of_le <;> omega
  have e2 : a.toInt.tmod n = a.toInt - a.toInt.tdiv n * n := by
    have := Int.mul_tdiv_add_tmod a.toInt n
    rw [Int.mul_comm] at this
    omega
  have hbd := tmod_bounds (a := a.toInt) (M := n) (by omega)
  rw [Int32.toInt_sub, Int32.toInt_mul, e1, hk, Int.sub_bmod_bmod, ← e2]
  apply Int.bmod_eq_of_le <;> omega
theorem tmod_emod (x : Int) : (x.tmod 5 = x % 5 ∧ 0 ≤ x.tmod 5) ∨ (x.tmod 5 + 5 = x % 5 ∧ x.tmod 5 < 0) := by
  rcases Int.le_total 0 x with h | h
  · left
    rw [Int.tmod_eq_emod_of_nonneg h]
    omega
  · have h1 : x.tmod 5 = -((-x) % 5) := by
      have h2 := Int.neg_tmod (-x) 5
      rw [Int.neg_neg] at h2
      rw [h2, Int.tmod_eq_emod_of_nonneg (by omega)]
    omega
theorem floorMod_ok (a : Int32) (σ : Mem) : fJ9_floorMod_7cf53 a 5 σ = some (nI (m5 a)) := by
  unfold fJ9_floorMod_7cf53
  rw [gd_of (by decide)]
  have hr := rem_toI a (k := 5) (n := 5) rfl (by decide) (by decide)
  have h5 : (5 : Int32).toInt = 5 := rfl
  have hm := tmod_emod a.toInt
  have hx : (0 ≤ a ^^^ 5) ↔ 0 ≤ a.toInt := by
    rw [Int32.le_iff_toInt_le]
    have e1 : (0 ≤ (a ^^^ 5).toInt) ↔ (a ^^^ 5).toBitVec.msb = false := by
      rw [show (a ^^^ 5).toInt = (a ^^^ 5).toBitVec.toInt from rfl, BitVec.msb_eq_toInt]
      simp
    have e2 : (0 ≤ a.toInt) ↔ a.toBitVec.msb = false := by
      rw [show a.toInt = a.toBitVec.toInt from rfl, BitVec.msb_eq_toInt]
      simp
    rw [show ((0 : Int32).toInt) = 0 from rfl, e1, e2, show (a ^^^ 5).toBitVec = a.toBitVec ^^^ 5#32 from rfl, BitVec.msb_xor, show (5#32).msb = false by decide]
    simp
  have hv : ∀ v : Int32, v.toInt = a.toInt % 5 → v = nI (m5 a) := fun v hv => by
    apply Int32.toInt_inj.mp
    rw [hv, nI_toInt (by unfold m5; omega)]
    unfold m5
    omega
  by_cases q : 0 ≤ a.toInt
  · rw [if_pos (hx.mpr q)]
    congr 1
    apply hv
    rw [hr, Int.tmod_eq_emod_of_nonneg q]
  · rw [if_neg (fun z => q (hx.mp z))]
    by_cases z : a - a / 5 * 5 = 0
    · rw [if_pos z]
      congr 1
      apply hv
      have : (a - a / 5 * 5).toInt = 0 := by rw [z]; rfl
      omega
    · rw [if_neg z]
      congr 1
      apply hv
      have hz : (a - a / 5 * 5).toInt ≠ 0 := fun y => z (Int32.toInt_inj.mp y)
      have la := Int32.le_toInt a
      rw [Int32.toInt_add, hr, h5]
      have : a.toInt.tmod 5 < 0 := by
        rcases hm with h | h
        · have h1 : a.toInt.tmod 5 ≤ 0 := by
            have h2 := Int.neg_tmod (-a.toInt) 5
            rw [Int.neg_neg] at h2
            have h3 : 0 ≤ (-a.toInt).tmod 5 := Int.tmod_nonneg 5 (by omega)
            omega
          omega
        · exact h.2
      have : a.toInt.tmod 5 + 5 = a.toInt % 5 := by omega
      rw [this]
      apply Int.bmod_eq_of_le <;> omega
theorem m5_lt (a : Int32) : m5 a < 5 := by unfold m5; omega
theorem otherWay_5 : ∀ w, w < 5 → fX0_otherWay (nI w) zeroM = some (nI (othS w)) := by decide +kernel
theorem otherWay_ok (σ : Mem) {w : Nat} (h : w < 5) : fX0_otherWay (nI w) σ = some (nI (othS w)) := (rfl : fX0_otherWay (nI w) σ = fX0_otherWay (nI w) zeroM).trans (otherWay_5 w h)
theorem div6 : ∀ c, c < 36 → nI c / 6 = nI (c / 6) ∧ nI c - nI c / 6 * 6 = nI (c % 6) := by decide +kernel
theorem telling_ok {σ : Mem} {b : Nat} {S : FS} (hb : isFl b) (h : CR σ b S) {d c part : Nat} (hd : d < sN S) (hc : sA S d = some c) (hp : part < 3) : ∃ σ', fX0_telling b (nI part) (nI d) σ = some (sV S part (fct S d c), σ') ∧ SQ σ σ' := by
  have hn := h.n
  have hc36 := h.at36 hd c hc
  obtain ⟨s0, s1, s2, s3, s4, s5⟩ := scr_fl hb
  obtain ⟨ρ, hρ, hr, hT⟩ := h.2.2.2.2.2.2
  have hne : ∀ k, k < 5 → b + 5 ≠ b + k := fun k hk => by omega
  unfold fX0_telling
  rw [hr, within_ok, bn1_s]
  have hw : ((0 : Int32) ≤ nI ρ ∧ nI ρ ≤ 5) := ⟨nI_pos' (by omega), nI_le (a := ρ) (b := 5) (by omega) (by omega)⟩
  rw [if_pos hw, if_neg (by decide)]
  have g6 : ∀ k, k < 6 → inB (nI k) 6 = true := fun k hk => inB_nI hk (by decide)
  have gd8 : inB (nI d) 8 = true := inB_nI (by omega) (by decide)
  rw [gd_of (show inB (0 : Int32) 6 = true by decide), stp_e]
  generalize e1 : wr σ (b + 5) 0 (σ.1 b 5) = σ1
  rw [gd_of gd8, gd_of (show inB (1 : Int32) 6 = true by decide), stp_e]
  generalize e2 : wr σ1 (b + 5) 1 (rd σ1 (b + 2) (nI d)) = σ2
  rw [gd_of gd8, gd_of (show inB (2 : Int32) 6 = true by decide), stp_e]
  generalize e3 : wr σ2 (b + 5) 2 (rd σ2 (b + 3) (nI d) / 6) = σ3
  rw [gd_of gd8, gd_of (show inB (3 : Int32) 6 = true by decide), stp_e]
  generalize e4 : wr σ3 (b + 5) 3 (rd σ3 (b + 3) (nI d) - rd σ3 (b + 3) (nI d) / 6 * 6) = σ4
  have r1 : σ1 = putI σ (b + 5) 0 (nI (sF S)) := by rw [← e1, h.2.2.2.1]; exact wr_nI (k := 0) (by decide)
  have q1 : SQ σ σ1 := by rw [r1]; exact SQ.rf.putI s5
  have h1 := h.sq hb q1
  have r2 : σ2 = putI σ1 (b + 5) 1 (nI (sU S d)) := by rw [← e2, rd_nI (by omega), (h1.2.2.2.2.1 d hd).2.1]; exact wr_nI (k := 1) (by decide)
  have q2 : SQ σ σ2 := by rw [r2]; exact q1.putI s5
  have h2 := h.sq hb q2
  have r3 : σ3 = putI σ2 (b + 5) 2 (nI (c / 6)) := by
    rw [← e3, rd_nI (by omega), (h2.2.2.2.2.1 d hd).2.2, hc]
    rw [show enc (some c) / 6 = nI (c / 6) from (div6 c hc36).1]
    exact wr_nI (k := 2) (by decide)
  have q3 : SQ σ σ3 := by rw [r3]; exact q2.putI s5
  have h3 := h.sq hb q3
  have r4 : σ4 = putI σ3 (b + 5) 3 (nI (c % 6)) := by
    rw [← e4, rd_nI (by omega), (h3.2.2.2.2.1 d hd).2.2, hc]
    rw [show enc (some c) - enc (some c) / 6 * 6 = nI (c % 6) from (div6 c hc36).2]
    exact wr_nI (k := 3) (by decide)
  have q4 : SQ σ σ4 := by rw [r4]; exact q3.putI s5
  have h4 := h.sq hb q4
  rw [kin_ok h4 hd, bn1_s, gd_of (show inB (4 : Int32) 6 = true by decide), stp_e]
  generalize e5 : wr σ4 (b + 5) 4 (nI (kinS S d)) = σ5
  have r5 : σ5 = putI σ4 (b + 5) 4 (nI (kinS S d)) := by rw [← e5]; exact wr_nI (k := 4) (by decide)
  have q5 : SQ σ σ5 := by rw [r5]; exact q4.putI s5
  have h5 := h.sq hb q5
  rw [gd_of (show inB (5 : Int32) 6 = true by decide), stp_e]
  generalize e6 : wr σ5 (b + 5) 5 (σ5.1 b 4) = σ6
  have r6 : σ6 = putI σ5 (b + 5) 5 (nI (sW S)) := by rw [← e6, h5.2.2.1]; exact wr_nI (k := 5) (by decide)
  have q6 : SQ σ σ6 := by rw [r6]; exact q5.putI s5
  have h6 := h.sq hb q6
  have hr6 : σ6.1 b 6 = nI ρ := by rw [q6.1 b s0]; exact hr
  rw [hr6, gd_of (g6 ρ hρ), nI_clamp (by omega)]
  obtain ⟨stk, hv⟩ := hT.2 σ6 (q6.1 _ (scr_tx ρ hρ).2.1) (q6.1 _ (scr_tx ρ hρ).2.2.1) part hp (b + 5) (isFa_of hb)
  have hf : cut6 (σ6.1 (b + 5)) = fct S d c := by
    funext k
    unfold cut6 fct
    rw [r6, r5, r4, r3, r2, r1]
    simp only [putI_at]
    match k with
    | 0 => simp
    | 1 => simp
    | 2 => simp
    | 3 => simp
    | 4 => simp
    | 5 => simp
    | k + 6 => simp; intro h; omega
  rw [hv, bnd_s, hf]
  exact ⟨_, rfl, q6.putR (scr_tx ρ hρ).2.2.2⟩
