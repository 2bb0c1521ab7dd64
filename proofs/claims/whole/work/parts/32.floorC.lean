/-! ===== the class's floor holds an abstract floor ===== -/
def scr (j : Nat) : Bool := j == 45 || j == 51 || j == 57 || j == 63 || j == 11 || j == 15 || j == 19 || j == 23 || j == 27 || j == 31
/-- the same but for scratch: facts, stacks -/
def SQ (σ σ' : Mem) : Prop := (∀ j, scr j = false → σ'.1 j = σ.1 j) ∧ σ'.2 = σ.2
theorem SQ.rf {σ : Mem} : SQ σ σ := ⟨fun _ _ => rfl, rfl⟩
theorem SQ.tr {σ σ' σ'' : Mem} (h : SQ σ σ') (h' : SQ σ' σ'') : SQ σ σ'' := ⟨fun j hj => (h'.1 j hj).trans (h.1 j hj), h'.2.trans h.2⟩
theorem SQ.putI {σ σ' : Mem} (h : SQ σ σ') {j k : Nat} {v : Int32} (hj : scr j = true) : SQ σ (putI σ' j k v) := ⟨fun i hi => by rw [putI_row σ' j k v (fun e => by rw [e, hj] at hi; cases hi)]; exact h.1 i hi, h.2⟩
theorem SQ.putR {σ σ' : Mem} (h : SQ σ σ') {j : Nat} {f : Nat → Int32} (hj : scr j = true) : SQ σ (putR σ' j f) := ⟨fun i hi => by rw [putR_at, if_neg (fun e => by rw [e, hj] at hi; cases hi)]; exact h.1 i hi, h.2⟩
/-- what a text's row of codes says -/
def TS (σ : Mem) (ρ : Nat) (V : Nat → (Nat → Int32) → Int32) : Prop :=
  V 3 (fun _ => 0) = nI ρ ∧ ∀ σ' : Mem, σ'.1 (9 + 4 * ρ) = σ.1 (9 + 4 * ρ) → σ'.1 (10 + 4 * ρ) = σ.1 (10 + 4 * ρ) → ∀ part, part < 3 → ∀ fa, isFa fa → ∃ stk, fX3_value (8 + 4 * ρ) (nI part) fa σ' = some (V part (cut6 (σ'.1 fa)), putR σ' (11 + 4 * ρ) stk)
def CR (σ : Mem) (b : Nat) (S : FS) : Prop :=
  okS S ∧ σ.1 b 7 = nI (sN S) ∧ σ.1 b 4 = nI (sW S) ∧ σ.1 b 5 = nI (sF S) ∧ (∀ d, d < sN S → σ.1 (b + 1) d = nI (sK S d) ∧ σ.1 (b + 2) d = nI (sU S d) ∧ σ.1 (b + 3) d = enc (sA S d)) ∧ (∀ c, c < 64 → (σ.2 b 3).toBitVec.getLsbD c = (decide (c < 36) && sC S c)) ∧ ∃ ρ, ρ < 6 ∧ σ.1 b 6 = nI ρ ∧ TS σ ρ (sV S)
theorem scr_fl {b : Nat} (hb : isFl b) : scr b = false ∧ scr (b + 1) = false ∧ scr (b + 2) = false ∧ scr (b + 3) = false ∧ scr (b + 4) = false ∧ scr (b + 5) = true := by
  rcases hb with rfl | rfl | rfl | rfl <;> decide
theorem scr_tx : ∀ k, k < 6 → scr (8 + 4 * k) = false ∧ scr (9 + 4 * k) = false ∧ scr (10 + 4 * k) = false ∧ scr (11 + 4 * k) = true := by decide
theorem TS.mono {σ σ' : Mem} {ρ : Nat} {V : Nat → (Nat → Int32) → Int32} (h : TS σ ρ V) (h1 : σ'.1 (9 + 4 * ρ) = σ.1 (9 + 4 * ρ)) (h2 : σ'.1 (10 + 4 * ρ) = σ.1 (10 + 4 * ρ)) : TS σ' ρ V := ⟨h.1, fun τ e1 e2 => h.2 τ (e1.trans h1) (e2.trans h2)⟩
theorem CR.sq {σ σ' : Mem} {b : Nat} {S : FS} (hb : isFl b) (h : CR σ b S) (q : SQ σ σ') : CR σ' b S := by
  obtain ⟨s0, s1, s2, s3, _, _⟩ := scr_fl hb
  obtain ⟨h0, h1, h2, h3, h4, h5, ρ, hρ, h6, h7⟩ := h
  refine ⟨h0, by rw [q.1 _ s0]; exact h1, by rw [q.1 _ s0]; exact h2, by rw [q.1 _ s0]; exact h3, fun d hd => ?_, by rw [q.2]; exact h5, ρ, hρ, by rw [q.1 _ s0]; exact h6, h7.mono (q.1 _ (scr_tx ρ hρ).2.1) (q.1 _ (scr_tx ρ hρ).2.2.1)⟩
  rw [q.1 _ s1, q.1 _ s2, q.1 _ s3]
  exact h4 d hd
section CF
variable {σ : Mem} {b : Nat} {S : FS}
theorem CR.n (h : CR σ b S) : sN S ≤ 8 := h.1.1
theorem CR.at36 (h : CR σ b S) {d : Nat} (hd : d < sN S) : ∀ c, sA S d = some c → c < 36 := (h.1.2.1 d hd).2.2
theorem nI_m1 {n : Nat} (h : n < 1000000) : (nI n - 1).toInt = (n : Int) - 1 := by
  have := pk_sub_toInt (a := n) (b := 1) (by omega) (by omega)
  exact this
theorem has_ok (h : CR σ b S) (a : Int32) : fX0_has b a σ = some (if 0 ≤ a.toInt ∧ a.toInt < (sN S : Int) then 1 else 0) := by
  unfold fX0_has
  rw [within_ok, bn1_s, h.2.1]
  have hn := h.n
  have e : (0 ≤ a ∧ a ≤ nI (sN S) - 1) ↔ (0 ≤ a.toInt ∧ a.toInt < (sN S : Int)) := by
    rw [Int32.le_iff_toInt_le, Int32.le_iff_toInt_le, nI_m1 (by omega)]
    simp
    omega
  by_cases q : 0 ≤ a.toInt ∧ a.toInt < (sN S : Int)
  · rw [if_pos (e.mpr q), if_pos q]; rfl
  · rw [if_neg (fun z => q (e.mp z)), if_neg q]; rfl
theorem has_nI (h : CR σ b S) {d : Nat} (hd : d < sN S) : fX0_has b (nI d) σ = some 1 := by
  have hn := h.n
  rw [has_ok h, if_pos]
  rw [nI_toInt (by omega)]
  omega
theorem isIn_ok (h : CR σ b S) {d : Nat} (hd : d < sN S) : fX0_isIn b (nI d) σ = some (if sA S d = none then 0 else 1) := by
  have hn := h.n
  unfold fX0_isIn
  rw [has_nI h hd, bn1_s, if_neg (by decide), gd_of (inB_nI (by omega) (by omega)), rd_nI (by omega), (h.2.2.2.2.1 d hd).2.2]
  by_cases q : sA S d = none
  · rw [if_pos ((enc_none (h.at36 hd)).mpr q), if_pos q]
  · rw [if_neg (fun z => q ((enc_none (h.at36 hd)).mp z)), if_neg q]
theorem thoseIn_ok (h : CR σ b S) {o : Option Nat} (ho : ∀ c, o = some c → c < 36) : fX0_thoseIn b (enc o) σ = some (nI (whoS S o)) := by
  have hn := h.n
  have := loop_up (b := fX0_thoseIn_L4 b (enc o) σ) (fun i => (nI (mkb (fun d => sA S d == o) i), nI i)) (some (nI (whoS S o))) (sN S) (fun i hi ih => by
    unfold fX0_thoseIn_L4
    dsimp only
    rw [h.2.1, if_neg (nI_ge hi (by omega)), gd_of (inB_nI (by omega) (by omega)), rd_nI (by omega), (h.2.2.2.2.1 i hi).2.2, nI_1]
    by_cases q : sA S i = o
    · rw [if_pos ((enc_eq (h.at36 hi) ho).mpr q), bit_or i (by omega) _ (mkb_lt _ i)]
      simp [mkb, q]
    · rw [if_neg (fun z => q ((enc_eq (h.at36 hi) ho).mp z))]
      simp [mkb, q]) (fun ih => by
    unfold fX0_thoseIn_L4
    dsimp only
    rw [h.2.1, if_pos (nI_le (Nat.le_refl _) (by omega))]
    rfl) 1000 0 (Nat.zero_le _) (by omega)
  exact this
theorem outs_ok (h : CR σ b S) : fX0_outs b σ = some (nI (outS S)) := by
  unfold fX0_outs
  have h1 := thoseIn_ok h (o := none) (fun c q => by cases q)
  have h2 : fJ6_bitCount_0f7a4 (nI (whoS S none)) σ = some (nI (outS S)) := by
    unfold whoS outS
    rw [bitCount_ok σ (mkb_256 _ h.n), pc8_mkb _ _ h.n]
  rw [show (-1 : Int32) = enc none from rfl, h1, bn1_s, h2, bn1_s]
theorem kin_ok (h : CR σ b S) {d : Nat} (hd : d < sN S) : fX0_kin b (nI d) σ = some (nI (kinS S d)) := by
  have hn := h.n
  have := loop_up (b := fX0_kin_L4 b (nI d) σ) (fun i => (nI (cnt (fun e => sA S e == sA S d) i), nI i)) (some (nI (kinS S d))) (sN S) (fun i hi ih => by
    unfold fX0_kin_L4
    dsimp only
    rw [h.2.1, if_neg (nI_ge hi (by omega)), gd_of (inB_nI (by omega) (by omega)), gd_of (inB_nI (by omega) (by omega)), rd_nI (by omega), rd_nI (by omega), (h.2.2.2.2.1 i hi).2.2, (h.2.2.2.2.1 d hd).2.2, nI_1, nI_1]
    by_cases q : sA S i = sA S d
    · rw [if_pos ((enc_eq (h.at36 hi) (h.at36 hd)).mpr q)]
      simp [cnt, q]
    · rw [if_neg (fun z => q ((enc_eq (h.at36 hi) (h.at36 hd)).mp z))]
      simp [cnt, q]) (fun ih => by
    unfold fX0_kin_L4
    dsimp only
    rw [h.2.1, if_pos (nI_le (Nat.le_refl _) (by omega))]
    rfl) 1000 0 (Nat.zero_le _) (by omega)
  exact this
end CF
