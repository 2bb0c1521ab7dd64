/-! ===== the model holds an abstract floor ===== -/
def msc (k : Nat) : Bool := decide (14 ≤ k) && decide (k ≤ 28)
/-- the same but for scratch fields and row x -/
def SY (x : Nat) (τ τ' : Mem) : Prop := (∀ j, j ≠ 0 → j ≠ x → τ'.1 j = τ.1 j) ∧ (∀ k, msc k = false → τ'.1 0 k = τ.1 0 k) ∧ (∀ j, j ≠ 0 → τ'.2 j = τ.2 j)
theorem SY.rf {x : Nat} {τ : Mem} : SY x τ τ := ⟨fun _ _ _ => rfl, fun _ _ => rfl, fun _ _ => rfl⟩
theorem SY.sq {x : Nat} {τ τ' τ'' : Mem} (h : SY x τ τ') (q : SY 0 τ' τ'') : SY x τ τ'' := ⟨fun j hj hx => (q.1 j hj hj).trans (h.1 j hj hx), fun k hk => (q.2.1 k hk).trans (h.2.1 k hk), fun j hj => (q.2.2 j hj).trans (h.2.2 j hj)⟩
theorem SY.put {x : Nat} {τ τ' : Mem} {k : Nat} {v : Int32} (h : SY x τ τ') (hx : x ≠ 0) : SY x τ (putI τ' x k v) := ⟨fun j hj hq => by rw [putI_row τ' x k v hq]; exact h.1 j hj hq, fun i hi => by rw [putI_row τ' x k v (fun e => hx e.symm)]; exact h.2.1 i hi, h.2.2⟩
theorem SY.fld {x : Nat} {τ τ' : Mem} {k : Nat} {v : Int32} (h : SY x τ τ') (hk : msc k = true) : SY x τ (putI τ' 0 k v) := ⟨fun j hj hq => by rw [putI_row τ' 0 k v hj]; exact h.1 j hj hq, fun i hi => by rw [putI_at, if_neg (fun e => by rw [e.2, hk] at hi; cases hi)]; exact h.2.1 i hi, h.2.2⟩
/-- the facts that the model's fields hold -/
def ofM (τ : Mem) : Nat → Int32 := fun k => if k < 6 then τ.1 0 (14 + k) else 0
def MTS (τ : Mem) (ρ : Nat) (V : Nat → (Nat → Int32) → Int32) : Prop :=
  V 3 (fun _ => 0) = nI ρ ∧ ∀ τ' : Mem, (∀ i, i < 160 → τ'.1 1 (160 * ρ + i) = τ.1 1 (160 * ρ + i)) → τ'.1 2 ρ = τ.1 2 ρ → ∀ part, part < 3 → ∃ τ'', fX5_read (nI ρ) (nI part) τ' = some (V part (ofM τ'), τ'') ∧ SY 0 τ' τ''
def MR (τ : Mem) (S : FS) : Prop :=
  okS S ∧ τ.1 0 13 = nI (sN S) ∧ τ.1 0 7 = nI (sW S) ∧ τ.1 0 8 = nI (sF S) ∧ (∀ d, d < sN S → τ.1 5 d = nI (sK S d) ∧ τ.1 6 d = nI (sU S d) ∧ τ.1 7 d = enc (sA S d)) ∧ (∀ c, c < 36 → τ.1 4 c = if sC S c then 1 else 0) ∧ ∃ ρ, ρ < 6 ∧ τ.1 0 4 = nI ρ ∧ MTS τ ρ (sV S)
theorem MTS.mono {τ τ' : Mem} {ρ : Nat} {V : Nat → (Nat → Int32) → Int32} (h : MTS τ ρ V) (h1 : ∀ i, i < 160 → τ'.1 1 (160 * ρ + i) = τ.1 1 (160 * ρ + i)) (h2 : τ'.1 2 ρ = τ.1 2 ρ) : MTS τ' ρ V := ⟨h.1, fun τ'' e1 e2 => h.2 τ'' (fun i hi => (e1 i hi).trans (h1 i hi)) (e2.trans h2)⟩
theorem MR.sy {x : Nat} {τ τ' : Mem} {S : FS} (h : MR τ S) (q : SY x τ τ') (hx : x = 0 ∨ x = 8) : MR τ' S := by
  obtain ⟨h0, h1, h2, h3, h4, h5, ρ, hρ, h6, h7⟩ := h
  refine ⟨h0, by rw [q.2.1 13 rfl]; exact h1, by rw [q.2.1 7 rfl]; exact h2, by rw [q.2.1 8 rfl]; exact h3, fun d hd => ?_, fun c hc => ?_, ρ, hρ, by rw [q.2.1 4 rfl]; exact h6, h7.mono (fun i hi => ?_) ?_⟩
  · rw [q.1 5 (by decide) (by omega), q.1 6 (by decide) (by omega), q.1 7 (by decide) (by omega)]
    exact h4 d hd
  · rw [q.1 4 (by decide) (by omega)]; exact h5 c hc
  · rw [q.1 1 (by decide) (by omega)]
  · rw [q.1 2 (by decide) (by omega)]
section MF
variable {τ : Mem} {S : FS}
theorem MR.n (h : MR τ S) : sN S ≤ 8 := h.1.1
theorem MR.at36 (h : MR τ S) {d : Nat} (hd : d < sN S) : ∀ c, sA S d = some c → c < 36 := (h.1.2.1 d hd).2.2
theorem whoIn_ok (h : MR τ S) {o : Option Nat} (ho : ∀ c, o = some c → c < 36) : fX5_whoIn (enc o) τ = some (nI (whoS S o)) := by
  have hn := h.n
  have := loop_up (b := fX5_whoIn_L4 (enc o) τ) (fun i => (nI (mkb (fun d => sA S d == o) i), nI i)) (some (nI (whoS S o))) (sN S) (fun i hi ih => by
    unfold fX5_whoIn_L4
    dsimp only
    rw [h.2.1, if_neg (nI_ge hi (by omega)), gd_of (inB_nI (by omega) (by omega)), rd_nI (by omega), (h.2.2.2.2.1 i hi).2.2, nI_1]
    by_cases q : sA S i = o
    · rw [if_pos ((enc_eq (h.at36 hi) ho).mpr q), bit_or i (by omega) _ (mkb_lt _ i)]
      simp [mkb, q]
    · rw [if_neg (fun z => q ((enc_eq (h.at36 hi) ho).mp z)), bit_or0 i (by omega) _ (mkb_lt _ i)]
      simp [mkb, q]) (fun ih => by
    unfold fX5_whoIn_L4
    dsimp only
    rw [h.2.1, if_pos (nI_le (Nat.le_refl _) (by omega))]
    rfl) 1000 0 (Nat.zero_le _) (by omega)
  exact this
theorem kinOf_ok (h : MR τ S) {d : Nat} (hd : d < sN S) : fX5_kinOf (nI d) τ = some (nI (kinS S d)) := by
  have hn := h.n
  unfold fX5_kinOf
  rw [gd_of (inB_nI (by omega) (by omega)), rd_nI (by omega), (h.2.2.2.2.1 d hd).2.2, whoIn_ok h (h.at36 hd), bn1_s]
  have h2 : fX5_bitsOf (nI (whoS S (sA S d))) τ = some (nI (kinS S d)) := by
    unfold whoS kinS
    rw [bitsOf_ok τ (mkb_256 _ h.n), pc8_mkb _ _ h.n]
  rw [h2, bn1_s]
theorem outMany_ok (h : MR τ S) : fX5_outMany τ = some (nI (outS S)) := by
  unfold fX5_outMany
  have h2 : fX5_bitsOf (nI (whoS S none)) τ = some (nI (outS S)) := by
    unfold whoS outS
    rw [bitsOf_ok τ (mkb_256 _ h.n), pc8_mkb _ _ h.n]
  rw [show (-1 : Int32) = enc none from rfl, whoIn_ok h (o := none) (fun c q => by cases q), bn1_s, h2, bn1_s]
theorem says_ok (h : MR τ S) {d c part : Nat} (hd : d < sN S) (hc : sA S d = some c) (hp : part < 3) : ∃ τ', fX5_says (nI part) (nI d) τ = some (sV S part (fct S d c), τ') ∧ SY 0 τ τ' := by
  have hn := h.n
  have hc36 := h.at36 hd c hc
  obtain ⟨ρ, hρ, hr, hT⟩ := h.2.2.2.2.2.2
  have gd8 : inB (nI d) 8 = true := inB_nI (by omega) (by decide)
  unfold fX5_says
  rw [stp_e, h.2.2.2.1]
  generalize r1 : putI τ 0 14 (nI (sF S)) = τ1
  have q1 : SY 0 τ τ1 := by rw [← r1]; exact SY.rf.fld rfl
  have h1 := h.sy q1 (.inl rfl)
  rw [gd_of gd8, stp_e, rd_nI (σ := τ1) (j := 6) (by omega), (h1.2.2.2.2.1 d hd).2.1]
  generalize r2 : putI τ1 0 15 (nI (sU S d)) = τ2
  have q2 : SY 0 τ τ2 := by rw [← r2]; exact q1.fld rfl
  have h2 := h.sy q2 (.inl rfl)
  have a2 : rd τ2 7 (nI d) = nI c := by rw [rd_nI (by omega), (h2.2.2.2.2.1 d hd).2.2, hc]; rfl
  rw [gd_of gd8, stp_e, a2, (div6 c hc36).1]
  generalize r3 : putI τ2 0 16 (nI (c / 6)) = τ3
  have q3 : SY 0 τ τ3 := by rw [← r3]; exact q2.fld rfl
  have h3 := h.sy q3 (.inl rfl)
  have a3 : rd τ3 7 (nI d) = nI c := by rw [rd_nI (by omega), (h3.2.2.2.2.1 d hd).2.2, hc]; rfl
  rw [gd_of gd8, stp_e, a3, (div6 c hc36).2]
  generalize r4 : putI τ3 0 17 (nI (c % 6)) = τ4
  have q4 : SY 0 τ τ4 := by rw [← r4]; exact q3.fld rfl
  have h4 := h.sy q4 (.inl rfl)
  rw [kinOf_ok h4 hd, bn1_s, stp_e]
  generalize r5 : putI τ4 0 18 (nI (kinS S d)) = τ5
  have q5 : SY 0 τ τ5 := by rw [← r5]; exact q4.fld rfl
  have h5 := h.sy q5 (.inl rfl)
  rw [stp_e, h5.2.2.1]
  generalize r6 : putI τ5 0 19 (nI (sW S)) = τ6
  have q6 : SY 0 τ τ6 := by rw [← r6]; exact q5.fld rfl
  rw [q6.2.1 4 rfl, hr]
  obtain ⟨τ7, hv, q7⟩ := hT.2 τ6 (fun i hi => by rw [q6.1 1 (by decide) (by decide)]) (by rw [q6.1 2 (by decide) (by decide)]) part hp
  have hf : ofM τ6 = fct S d c := by
    funext k
    unfold ofM fct
    rw [← r6, ← r5, ← r4, ← r3, ← r2, ← r1]
    simp only [putI_at]
    match k with
    | 0 => simp
    | 1 => simp
    | 2 => simp
    | 3 => simp
    | 4 => simp
    | 5 => simp
    | k + 6 => simp; intro h; omega
  rw [hv, bnd_s, hf]
  exact ⟨_, rfl, q6.sq q7⟩
theorem mwithin_ok (v : Int32) (σ : Mem) : fX5_within v 0 9 σ = some (nI (cl9 v)) := by
  unfold fX5_within
  rw [← cl9_nI]
  have h0 : (0 : Int32).toInt = 0 := rfl
  have h9 : (9 : Int32).toInt = 9 := rfl
  by_cases h1 : (0 : Int32) ≤ v
  · have h1' := Int32.le_iff_toInt_le.mp h1
    rw [if_pos h1, if_neg (show ¬ v.toInt < 0 by omega)]
    by_cases h2 : v ≤ 9
    · have h2' := Int32.le_iff_toInt_le.mp h2
      rw [if_pos h2, if_neg (show ¬ 9 < v.toInt by omega)]
    · have h2' : ¬ v.toInt ≤ (9 : Int32).toInt := fun q => h2 (Int32.le_iff_toInt_le.mpr q)
      rw [if_neg h2, if_pos (show 9 < v.toInt by omega)]
  · have h1' : ¬ (0 : Int32).toInt ≤ v.toInt := fun q => h1 (Int32.le_iff_toInt_le.mpr q)
    rw [if_neg h1, if_pos (show v.toInt < 0 by omega)]
theorem cl9_10 : ∀ v, v < 10 → cl9 (nI v) = v ∧ cl9 (nI v / 2) = v / 2 ∧ cl9 (nI v + 1) = min 9 (v + 1) ∧ cl9 (2 * (nI v + 1)) = min 9 (2 * (v + 1)) := by decide +kernel
theorem goesOf_ok (h : MR τ S) {d c : Nat} (hd : d < sN S) (hc : sA S d = some c) : ∃ τ', fX5_goesOf (nI d) τ = some (nI (farS S d c), τ') ∧ SY 0 τ τ' := by
  have hn := h.n
  obtain ⟨τ1, ht0, q1⟩ := says_ok h hd hc (part := 0) (by decide)
  have ht : fX5_says 0 (nI d) τ = some (sV S 0 (fct S d c), τ1) := ht0
  have g8 : inB (nI d) 8 = true := inB_nI (by omega) (by omega)
  have hv := cl9_le (sV S 0 (fct S d c))
  obtain ⟨a0, a1, a2, a3⟩ := cl9_10 (cl9 (sV S 0 (fct S d c))) (by omega)
  have hk := (h.1.2.1 d hd).1
  have hF := h.1.2.2.2
  unfold fX5_goesOf
  rw [gd_of g8, rd_nI (by omega), (h.2.2.2.2.1 d hd).1]
  unfold farS
  rcases (show sK S d = 0 ∨ sK S d = 1 ∨ sK S d = 2 ∨ sK S d = 3 ∨ sK S d = 4 ∨ sK S d = 5 by omega) with e | e | e | e | e | e <;> rw [e] <;> simp only []
  · refine ⟨τ1, ?_, q1⟩
    rw [if_neg (by decide), if_neg (by decide)]
    unfold fX5_goesOf_b47
    rw [ht, bnd_s, mwithin_ok, bn1_s, if_neg (by decide), if_neg (by decide), if_neg (by decide), if_neg (by decide), mwithin_ok, bn1_s, a0]
  · refine ⟨τ1, ?_, q1⟩
    rw [if_neg (by decide), if_neg (by decide)]
    unfold fX5_goesOf_b47
    rw [ht, bnd_s, mwithin_ok, bn1_s, if_pos (by decide), mwithin_ok, bn1_s, a1]
  · refine ⟨τ1, ?_, q1⟩
    rw [if_neg (by decide), if_neg (by decide)]
    unfold fX5_goesOf_b47
    rw [ht, bnd_s, mwithin_ok, bn1_s, if_neg (by decide), if_neg (by decide), if_pos (by decide), mwithin_ok, bn1_s, a2]
  · have hk2 := kinS_le S d
    rw [if_neg (by decide), if_pos (by decide), kinOf_ok h hd, bn1_s, if_eq_lit (L := 1) (k := 1) rfl (by omega) (by decide)]
    by_cases q : kinS S d = 1
    · exact ⟨τ, by rw [if_pos q, if_pos q]; rfl, SY.rf⟩
    · refine ⟨τ1, ?_, q1⟩
      rw [if_neg q, if_neg q]
      unfold fX5_goesOf_b47
      rw [ht, bnd_s, mwithin_ok, bn1_s, if_neg (by decide), if_pos (by decide), mwithin_ok, bn1_s, a1]
  · refine ⟨τ1, ?_, q1⟩
    rw [if_neg (by decide), if_neg (by decide)]
    unfold fX5_goesOf_b47
    rw [ht, bnd_s, mwithin_ok, bn1_s, if_neg (by decide), if_neg (by decide), if_neg (by decide), if_pos (by decide), mwithin_ok, bn1_s, a3]
  · refine ⟨τ, ?_, SY.rf⟩
    rw [if_pos (by decide), h.2.2.2.1, if_le_lit (L := 5) (k := 5) rfl (by omega) (by decide)]
    by_cases q : 5 < sF S
    · rw [if_neg (by omega), if_pos q, gd_of g8, rd_nI (by omega), (h.2.2.2.2.1 d hd).2.1]
    · rw [if_pos (by omega), if_neg q]; rfl
theorem isLoose_ok (h : MR τ S) {d c : Nat} (hd : d < sN S) (hc : sA S d = some c) : ∃ τ', fX5_isLoose (nI d) τ = some (if freeS S d c then 1 else 0, τ') ∧ SY 0 τ τ' := by
  have hn := h.n
  obtain ⟨τ1, ht0, q1⟩ := says_ok h hd hc (part := 1) (by decide)
  have ht : fX5_says 1 (nI d) τ = some (sV S 1 (fct S d c), τ1) := ht0
  have g8 : inB (nI d) 8 = true := inB_nI (by omega) (by omega)
  have hk := (h.1.2.1 d hd).1
  have hF := h.1.2.2.2
  have hW := h.1.2.2.1
  unfold fX5_isLoose
  rw [gd_of g8, rd_nI (by omega), (h.2.2.2.2.1 d hd).1]
  unfold freeS
  rcases (show sK S d = 0 ∨ sK S d = 1 ∨ sK S d = 2 ∨ sK S d = 3 ∨ sK S d = 4 ∨ sK S d = 5 by omega) with e | e | e | e | e | e <;> rw [e] <;> simp only []
  · refine ⟨τ1, ?_, q1⟩
    rw [if_neg (by decide), if_neg (by decide), if_neg (by decide), if_neg (by decide), ht, bnd_s]
    have nk : ¬ nI 0 = 5 := by decide
    by_cases q : sV S 1 (fct S d c) = 0
    · simp [q, nk]
    · simp [q, nk]
  · exact ⟨τ, by rw [if_pos (by decide), if_neg (by decide)]; rfl, SY.rf⟩
  · exact ⟨τ, by rw [if_neg (by decide), if_pos (by decide), if_pos (by decide)]; rfl, SY.rf⟩
  · refine ⟨τ, ?_, SY.rf⟩
    rw [if_neg (by decide), if_neg (by decide), if_pos (by decide)]
    unfold fX5_isLoose_b38
    rw [if_pos (by decide), h.2.2.2.1, if_eq_lit (L := 9) (k := 9) rfl (by omega) (by decide)]
    by_cases q : sF S = 9
    · rw [if_pos q]; simp [q]
    · rw [if_neg q]; simp [q]
  · refine ⟨τ, ?_, SY.rf⟩
    rw [if_neg (by decide), if_neg (by decide), if_neg (by decide), if_pos (by decide)]
    unfold fX5_isLoose_b38
    rw [if_neg (by decide), h.2.2.1]
    have hr : nI (sW S) - nI (sW S) / 2 * 2 = nI (sW S % 2) := pk_rem (d := 2) (by omega) (by decide) (by decide)
    rw [hr, if_eq_lit (L := 0) (k := 0) rfl (by omega) (by decide)]
    by_cases q : sW S % 2 = 0
    · rw [if_pos q]; simp [q]
    · rw [if_neg q]; simp [q]
  · refine ⟨τ1, ?_, q1⟩
    rw [if_neg (by decide), if_neg (by decide), if_neg (by decide), if_neg (by decide), ht, bnd_s]
    have nk : nI 5 = 5 := rfl
    by_cases q : sV S 1 (fct S d c) = 0
    · simp [q, nk]
    · simp [q, nk]
theorem oth_5 : ∀ w, w < 5 → (if nI w = 0 then nI w else if nI w - nI w / 2 * 2 = 1 then nI w + 1 else nI w - 1) = nI (othS w) := by decide +kernel
theorem b54_ok (d : Int32) (τ1 : Mem) (k : Int32) {w : Nat} (hw : w < 5) : fX5_blownOf_b54 d τ1 k (nI w) = some (nI (if k = 4 then othS w else w), τ1) := by
  unfold fX5_blownOf_b54
  have := oth_5 w hw
  by_cases q : k = 4
  · rw [if_pos q, if_pos q]
    by_cases q1 : nI w = 0
    · rw [if_pos q1] at this ⊢; rw [this]
    · rw [if_neg q1] at this ⊢
      by_cases q2 : nI w - nI w / 2 * 2 = 1
      · rw [if_pos q2] at this ⊢; rw [this]
      · rw [if_neg q2] at this ⊢; rw [this]
  · rw [if_neg q, if_neg q]
theorem b34_ok {d : Int32} {τ τ1 : Mem} {v : Int32} (h : fX5_says 2 d τ = some (v, τ1)) (k : Int32) : fX5_blownOf_b34 d τ k = some (nI (if k = 4 then othS (m5 v) else m5 v), τ1) := by
  unfold fX5_blownOf_b34
  rw [h, bnd_s]
  have hr := rem_toI v (k := 5) (n := 5) rfl (by decide) (by decide)
  have hm := tmod_emod v.toInt
  have h5 : (5 : Int32).toInt = 5 := rfl
  have h0 : (0 : Int32).toInt = 0 := rfl
  have hv : ∀ x : Int32, x.toInt = v.toInt % 5 → x = nI (m5 v) := fun x hx => by
    apply Int32.toInt_inj.mp
    rw [hx, nI_toInt (by unfold m5; omega)]
    unfold m5
    omega
  by_cases q : (0 : Int32) ≤ v - v / 5 * 5
  · rw [if_pos q]
    have q' := Int32.le_iff_toInt_le.mp q
    rw [h0, hr] at q'
    rw [hv (v - v / 5 * 5) (by rw [hr]; omega)]
    exact b54_ok d τ1 k (m5_lt v)
  · rw [if_neg q]
    have q' : ¬ (0 : Int32).toInt ≤ (v - v / 5 * 5).toInt := fun z => q (Int32.le_iff_toInt_le.mpr z)
    rw [h0, hr] at q'
    rw [hv (v - v / 5 * 5 + 5) (by
      rw [Int32.toInt_add, hr, h5]
      have : v.toInt.tmod 5 + 5 = v.toInt % 5 := by omega
      rw [this]
      apply Int.bmod_eq_of_le <;> omega)]
    exact b54_ok d τ1 k (m5_lt v)
theorem blownOf_ok (h : MR τ S) {d c : Nat} (hd : d < sN S) (hc : sA S d = some c) : ∃ τ', fX5_blownOf (nI d) τ = some (nI (wayS S d c), τ') ∧ SY 0 τ τ' := by
  have hn := h.n
  obtain ⟨τ1, ht0, q1⟩ := says_ok h hd hc (part := 2) (by decide)
  have ht : fX5_says 2 (nI d) τ = some (sV S 2 (fct S d c), τ1) := ht0
  have g8 : inB (nI d) 8 = true := inB_nI (by omega) (by omega)
  have hk := (h.1.2.1 d hd).1
  have hU := (h.1.2.1 d hd).2.1
  unfold fX5_blownOf
  rw [gd_of g8, rd_nI (by omega), (h.2.2.2.2.1 d hd).1]
  unfold wayS
  rcases (show sK S d = 0 ∨ sK S d = 1 ∨ sK S d = 2 ∨ sK S d = 3 ∨ sK S d = 4 ∨ sK S d = 5 by omega) with e | e | e | e | e | e <;> rw [e] <;> simp only []
  · refine ⟨τ1, ?_, q1⟩
    rw [if_neg (by decide), if_neg (by decide), if_neg (by decide), b34_ok ht, if_neg (by decide)]
  · exact ⟨τ, by rw [if_pos (by decide)]; rfl, SY.rf⟩
  · refine ⟨τ1, ?_, q1⟩
    rw [if_neg (by decide), if_neg (by decide), if_neg (by decide), b34_ok ht, if_neg (by decide)]
  · exact ⟨τ, by rw [if_neg (by decide), if_pos (by decide)]; rfl, SY.rf⟩
  · refine ⟨τ1, ?_, q1⟩
    rw [if_neg (by decide), if_neg (by decide), if_neg (by decide), b34_ok ht, if_pos (by decide)]
  · rw [if_neg (by decide), if_neg (by decide), if_pos (by decide), gd_of g8, rd_nI (by omega), (h.2.2.2.2.1 d hd).2.1]
    by_cases q : 4 < sU S d
    · refine ⟨τ1, ?_, q1⟩
      rw [if_pos (show (5 : Int32) ≤ nI (sU S d) from nI_le (a := 5) (by omega) (by omega)), if_pos q, b34_ok ht, if_neg (by decide)]
    · refine ⟨τ, ?_, SY.rf⟩
      rw [if_neg (show ¬ (5 : Int32) ≤ nI (sU S d) from nI_ge (b := 5) (by omega) (by omega)), if_neg q]; rfl
theorem beside_36 : ∀ c, c < 36 → ∀ w, w < 5 → fX5_beside (nI c) (nI w) zeroM = some (enc (stepS c w)) := by decide +kernel
theorem beside_ok (σ : Mem) {c w : Nat} (hc : c < 36) (hw : w < 5) : fX5_beside (nI c) (nI w) σ = some (enc (stepS c w)) := (rfl : fX5_beside (nI c) (nI w) σ = fX5_beside (nI c) (nI w) zeroM).trans (beside_36 c hc w hw)
theorem isMovable_ok (h : MR τ S) {d : Nat} (hd : d < sN S) : ∃ τ', fX5_isMovable (nI d) τ = some (match sA S d with | none => 0 | some c => if !sC S c || freeS S d c then 1 else 0, τ') ∧ SY 0 τ τ' := by
  have hn := h.n
  have g8 : inB (nI d) 8 = true := inB_nI (by omega) (by omega)
  unfold fX5_isMovable
  rw [gd_of g8, gd_of g8, rd_nI (by omega), (h.2.2.2.2.1 d hd).2.2]
  cases hc : sA S d with
  | none => exact ⟨τ, by rw [if_pos (show enc none = -1 from rfl)], SY.rf⟩
  | some c =>
    have hc36 := h.at36 hd c hc
    rw [if_neg (fun z => by have := (enc_none (a := some c) (fun x hx => by cases hx; exact hc36)).mp z; cases this), show enc (some c) = nI c from rfl, gd_of (inB_nI hc36 (by decide)), rd_nI (by omega), h.2.2.2.2.2.1 c hc36]
    by_cases qc : sC S c = true
    · obtain ⟨τ1, hf, q1⟩ := isLoose_ok h hd hc
      refine ⟨τ1, ?_, q1⟩
      rw [if_pos qc, if_neg (by decide), hf, bnd_s]
      by_cases qf : freeS S d c = true
      · rw [if_pos qf, if_neg (by decide)]; simp [qc, qf]
      · rw [if_neg qf, if_pos rfl]; simp [qc, qf]
    · refine ⟨τ, ?_, SY.rf⟩
      rw [if_neg qc, if_pos rfl]; simp [qc]
theorem mswept_loop (h : MR τ S) {a1 : Int32} {w n : Nat} (hw : w < 5) (hn : n < 1000) : ∀ (k c i fuel : Nat), c < 36 → i + k = n → k < fuel → loopN (fX5_swept_L11 a1 (nI w) (nI n) τ) fuel (nI c, nI i) = some (enc (swpS (sC S) w k c)) := by
  intro k
  induction k with
  | zero =>
    intro c i fuel hc hi hf
    cases fuel with
    | zero => omega
    | succ f =>
      show fX5_swept_L11 a1 (nI w) (nI n) τ _ (nI c, nI i) = _
      unfold fX5_swept_L11
      dsimp only
      rw [if_pos (nI_le (by omega) (by omega))]
      rfl
  | succ k ih =>
    intro c i fuel hc hi hf
    cases fuel with
    | zero => omega
    | succ f =>
      show fX5_swept_L11 a1 (nI w) (nI n) τ _ (nI c, nI i) = _
      unfold fX5_swept_L11
      dsimp only
      rw [if_neg (nI_ge (by omega) (by omega)), beside_ok τ hc hw, bn1_s]
      unfold swpS
      cases hs : stepS c w with
      | none => rw [if_pos (show enc none = -1 from rfl)]
      | some c' =>
        have hc' := stepS_lt hc hs
        dsimp only
        rw [if_neg (fun z => by have := (enc_none (a := some c') (fun x hx => by cases hx; exact hc')).mp z; cases this)]
        rw [show enc (some c') = nI c' from rfl, gd_of (inB_nI hc' (by decide)), rd_nI (by omega), h.2.2.2.2.2.1 c' hc']
        by_cases q : sC S c' = true
        · rw [if_pos q, if_pos rfl, if_pos q]; rfl
        · rw [if_neg q, if_neg (by decide), if_neg q, nI_1]
          exact ih c' (i + 1) f hc' (by omega) (by omega)
theorem mswept_ok (h : MR τ S) {d c w n : Nat} (hd : d < sN S) (hc : sA S d = some c) (hw : w < 5) (hn : n < 999) : fX5_swept (nI d) (nI w) (nI n) τ = some (enc (swpS (sC S) w n c)) := by
  have h8 := h.n
  have hc36 := h.at36 hd c hc
  have := mswept_loop (a1 := nI d) h hw (n := n) (by omega) n c 0 1000 hc36 (by omega) (by omega)
  unfold fX5_swept
  rw [gd_of (inB_nI (by omega) (by omega)), rd_nI (by omega), (h.2.2.2.2.1 d hd).2.2, hc]
  exact this
end MF
