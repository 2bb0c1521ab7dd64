/-! ===== tests of numbers, on both sides ===== -/
theorem within_I (σ : Mem) (a y z : Int32) {p q : Int} (hy : y.toInt = p) (hz : z.toInt = q) : fX4_within a y z σ = some (if p ≤ a.toInt ∧ a.toInt ≤ q then 1 else 0) := by
  rw [within_ok]
  subst hy hz
  by_cases h : y ≤ a ∧ a ≤ z
  · rw [if_pos h, if_pos ⟨Int32.le_iff_toInt_le.mp h.1, Int32.le_iff_toInt_le.mp h.2⟩]
  · rw [if_neg h, if_neg (fun q => h ⟨Int32.le_iff_toInt_le.mpr q.1, Int32.le_iff_toInt_le.mpr q.2⟩)]
theorem in_L (σ : Mem) (x y z : Int64) : fX5_in x y z σ = some (if y.toInt ≤ x.toInt ∧ x.toInt ≤ z.toInt then 1 else 0) := by
  unfold fX5_in
  by_cases h1 : x < y
  · rw [if_pos ((lg_cmp_lt x y).mpr h1), if_neg (fun h => by have := Int64.lt_iff_toInt_lt.mp h1; omega)]
  · rw [if_neg (fun h => h1 ((lg_cmp_lt x y).mp h))]
    have h1' : ¬ x.toInt < y.toInt := fun h => h1 (Int64.lt_iff_toInt_lt.mpr h)
    by_cases h2 : z < x
    · rw [if_pos ((lg_cmp_gt x z).mpr h2), if_neg (fun h => by have := Int64.lt_iff_toInt_lt.mp h2; omega)]
    · have h2' : ¬ z.toInt < x.toInt := fun h => h2 (Int64.lt_iff_toInt_lt.mpr h)
      rw [if_neg (fun h => h2 ((lg_cmp_gt x z).mp h)), if_pos (by omega)]
theorem in_I (σ : Mem) (a : Int32) (y z : Int64) {p q : Int} (hy : y.toInt = p) (hz : z.toInt = q) : fX5_in a.toInt64 y z σ = some (if p ≤ a.toInt ∧ a.toInt ≤ q then 1 else 0) := by
  rw [in_L, hy, hz, Int32.toInt_toInt64]
theorem of_rng {a : Int32} {q : Int} (h : 0 ≤ a.toInt ∧ a.toInt ≤ q) : ∃ k : Nat, (k : Int) ≤ q ∧ k < 2147483648 ∧ a = nI k := by
  have := Int32.toInt_lt a
  refine ⟨a.toInt.toNat, by omega, by omega, Int32.toInt_inj.mp ?_⟩
  rw [nI_toInt (by omega)]
  omega
theorem isB_if (c : Prop) [Decidable c] : isB (if c then 1 else 0) = true := by split <;> rfl
theorem gdB {α : Type} (c : Prop) [Decidable c] (x : Option α) : gd (isB (if c then 1 else 0)) x = x := gd_of (isB_if c)
theorem isCell4 (σ : Mem) (a : Int32) : fX4_isCell a σ = some (if 0 ≤ a.toInt ∧ a.toInt ≤ 35 then 1 else 0) := by
  unfold fX4_isCell; rw [within_I σ a 0 35 (p := 0) (q := 35) rfl rfl, bn1_s, gdB]
theorem isStroke4 (σ : Mem) (a : Int32) : fX4_isStroke a σ = some (if 0 ≤ a.toInt ∧ a.toInt ≤ 23 then 1 else 0) := by
  unfold fX4_isStroke; rw [within_I σ a 0 23 (p := 0) (q := 23) rfl rfl, bn1_s, gdB]
theorem isSheet4 (σ : Mem) (a : Int32) : fX4_isSheet a σ = some (if 0 ≤ a.toInt ∧ a.toInt ≤ 3 then 1 else 0) := by
  unfold fX4_isSheet; rw [within_I σ a 0 3 (p := 0) (q := 3) rfl rfl, bn1_s, gdB]
theorem isCell5 (σ : Mem) (a : Int32) : fX5_isCell a σ = some (if 0 ≤ a.toInt ∧ a.toInt ≤ 35 then 1 else 0) := by
  unfold fX5_isCell; rw [in_I σ a 0 35 (p := 0) (q := 35) rfl rfl, bn1_s, gdB]
theorem isStroke5 (σ : Mem) (a : Int32) : fX5_isStroke a σ = some (if 0 ≤ a.toInt ∧ a.toInt ≤ 23 then 1 else 0) := by
  unfold fX5_isStroke; rw [in_I σ a 0 23 (p := 0) (q := 23) rfl rfl, bn1_s, gdB]
theorem isSheet5 (σ : Mem) (a : Int32) : fX5_isSheet a σ = some (if 0 ≤ a.toInt ∧ a.toInt ≤ 3 then 1 else 0) := by
  unfold fX5_isSheet; rw [in_I σ a 0 3 (p := 0) (q := 3) rfl rfl, bn1_s, gdB]
theorem isOne5 {τ : Mem} {S : FS} (h : MR τ S) (a : Int32) : fX5_isOne a τ = some (if 0 ≤ a.toInt ∧ a.toInt < (sN S : Int) then 1 else 0) := by
  have hn := h.n
  unfold fX5_isOne
  rw [h.2.1, in_I τ a 0 ((nI (sN S) - 1).toInt64) (p := 0) (q := (sN S : Int) - 1) rfl (by rw [Int32.toInt_toInt64, nI_m1 (by omega)]), bn1_s, gdB]
  congr 1
  by_cases q : 0 ≤ a.toInt ∧ a.toInt < (sN S : Int)
  · rw [if_pos q, if_pos (by omega)]
  · rw [if_neg q, if_neg (by omega)]
theorem of_one {a : Int32} {n : Nat} (h : 0 ≤ a.toInt ∧ a.toInt < (n : Int)) (hn : n ≤ 1000) : ∃ k : Nat, k < n ∧ a = nI k := by
  obtain ⟨k, h1, h2, rfl⟩ := of_rng (a := a) (q := (n : Int) - 1) (by omega)
  exact ⟨k, by omega, rfl⟩
theorem isIn_out {σ : Mem} {b : Nat} {S : FS} (h : CR σ b S) {a : Int32} (ha : ¬ (0 ≤ a.toInt ∧ a.toInt < (sN S : Int))) : fX0_isIn b a σ = some 0 := by
  unfold fX0_isIn
  rw [has_ok h, if_neg ha, bn1_s, if_pos rfl]
/-! loops that may end early -/
theorem loop_ex {V α : Type} {b : (V → Option α) → V → Option α} (st : Nat → V) (fin : Option α) (n : Nat) (P : Nat → Prop) (hs : ∀ i, i < n → P i → ((∀ ih, b ih (st i) = ih (st (i + 1))) ∧ P (i + 1)) ∨ (∀ ih, b ih (st i) = fin)) (he : P n → ∀ ih, b ih (st n) = fin) : ∀ (fuel k : Nat), k ≤ n → n - k < fuel → P k → loopN b fuel (st k) = fin
  | 0, k, _, h, _ => absurd h (by omega)
  | f + 1, k, hk, h, hP => by
    show b (loopN b f) (st k) = fin
    by_cases hkn : k = n
    · subst hkn; exact he hP _
    · rcases hs k (by omega) hP with ⟨h1, h2⟩ | h1
      · rw [h1]
        exact loop_ex st fin n P hs he f (k + 1) (by omega) (by omega) h2
      · exact h1 _
theorem loop_inx {V α : Type} {b : (V → Option α) → V → Option α} (I : Nat → V → Prop) (Post : α → Prop) (n : Nat) (hs : ∀ i v, i < n → I i v → (∃ v', (∀ ih, b ih v = ih v') ∧ I (i + 1) v') ∨ (∃ r, (∀ ih, b ih v = some r) ∧ Post r)) (he : ∀ v, I n v → ∃ r, (∀ ih, b ih v = some r) ∧ Post r) : ∀ (fuel k : Nat) (v : V), k ≤ n → n - k < fuel → I k v → ∃ r, loopN b fuel v = some r ∧ Post r
  | 0, k, _, _, h, _ => absurd h (by omega)
  | f + 1, k, v, hk, h, hI => by
    have fin : (∃ r, (∀ ih, b ih v = some r) ∧ Post r) → ∃ r, loopN b (f + 1) v = some r ∧ Post r := fun ⟨r, h1, h2⟩ => ⟨r, h1 _, h2⟩
    by_cases hkn : k = n
    · subst hkn
      exact fin (he v hI)
    · rcases hs k v (by omega) hI with ⟨v', h1, h2⟩ | h1
      · obtain ⟨r, h3, h4⟩ := loop_inx I Post n hs he f (k + 1) v' (by omega) (by omega) h2
        exact ⟨r, by show b (loopN b f) v = some r; rw [h1]; exact h3, h4⟩
      · exact fin h1
/-! ===== a floor becomes another one ===== -/
theorem cpy8 (σ : Mem) (j0 j1 j k : Nat) : (cpy σ j0 0 j1 0 8).1 j k = if j = j1 ∧ k < 8 then σ.1 j0 k else σ.1 j k := by
  unfold cpy
  rw [putR_at]
  by_cases h : j = j1
  · subst h
    rw [if_pos rfl]
    show va_cpy (σ.1 j0) (σ.1 j) 0 0 8 k = _
    by_cases hk : k < 8
    · rw [if_pos ⟨rfl, hk⟩]
      exact sb_cpy0 hk
    · rw [if_neg (fun q => hk q.2)]
      exact pk_cpy_out (by omega)
  · rw [if_neg h, if_neg (fun q => h q.1)]
theorem cpy_2 (σ : Mem) (j0 j1 : Nat) (a b c : Int32) : (cpy σ j0 a j1 b c).2 = σ.2 := rfl
theorem putL_1 (σ : Mem) (j k : Nat) (v : Int64) : (putL σ j k v).1 = σ.1 := rfl
theorem putL_at (σ : Mem) (j k : Nat) (v : Int64) (j' k' : Nat) : (putL σ j k v).2 j' k' = if j' = j ∧ k' = k then v else σ.2 j' k' := by
  unfold putL vp_updL
  by_cases h : j' = j
  · subst h; by_cases h2 : k' = k <;> simp [h2]
  · simp [h]
theorem putL_row (σ : Mem) (j k : Nat) (v : Int64) {j' : Nat} (h : j' ≠ j) : (putL σ j k v).2 j' = σ.2 j' := by
  unfold putL; simp [h]
theorem become_cells (σ : Mem) {b b1 : Nat} (hb : isFl b) (hb1 : isFl b1) (hne : b ≠ b1) : ∃ F, fX0_become b b1 σ = some F ∧ (∀ k, k < 8 → F.1 (b + 1) k = σ.1 (b1 + 1) k ∧ F.1 (b + 2) k = σ.1 (b1 + 2) k ∧ F.1 (b + 3) k = σ.1 (b1 + 3) k) ∧ (F.1 b 4 = σ.1 b1 4 ∧ F.1 b 5 = σ.1 b1 5 ∧ F.1 b 6 = σ.1 b1 6 ∧ F.1 b 7 = σ.1 b1 7) ∧ F.2 b 3 = σ.2 b1 3 ∧ (∀ j, j ≠ b → j ≠ b + 1 → j ≠ b + 2 → j ≠ b + 3 → F.1 j = σ.1 j) ∧ (∀ j, j ≠ b → F.2 j = σ.2 j) := by
  have hd : ∀ i j, i < 6 → j < 6 → b + i ≠ b1 + j := fun i j hi hj => by
    rcases hb with rfl | rfl | rfl | rfl <;> rcases hb1 with rfl | rfl | rfl | rfl <;> omega
  have d0 := hd 0 0; have d1 := hd 1 2; have d2 := hd 1 3; have d3 := hd 2 3; have d4 := hd 2 1; have d5 := hd 3 1; have d6 := hd 3 2
  have n0 : b1 ≠ b := fun q => hne q.symm
  have n1 : b1 ≠ b + 1 := fun q => hd 1 0 (by omega) (by omega) (by omega)
  have n2 : b1 ≠ b + 2 := fun q => hd 2 0 (by omega) (by omega) (by omega)
  have n3 : b1 ≠ b + 3 := fun q => hd 3 0 (by omega) (by omega) (by omega)
  have m1 : b1 + 2 ≠ b + 1 := fun q => d1 (by omega) (by omega) q.symm
  have m2 : b1 + 3 ≠ b + 1 := fun q => d2 (by omega) (by omega) q.symm
  have m3 : b1 + 3 ≠ b + 2 := fun q => d3 (by omega) (by omega) q.symm
  have g := show cpOk 0 0 8 8 8 = true by decide
  refine ⟨_, by unfold fX0_become; simp only [gd_of g, stp_e]; rfl, fun k hk => ⟨?_, ?_, ?_⟩, ⟨?_, ?_, ?_, ?_⟩, ?_, fun j h0 h1 h2 h3 => ?_, fun j h0 => ?_⟩
  · simp [putI_at, putL_1, cpy8, hk]
  · simp [putI_at, putL_1, cpy8, hk, m1]
  · simp [putI_at, putL_1, cpy8, hk, m2, m3]
  · simp [putI_at, putL_1, cpy8, n0, n1, n2, n3]
  · simp [putI_at, putL_1, cpy8, n0, n1, n2, n3]
  · simp [putI_at, putL_1, cpy8, n0, n1, n2, n3]
  · simp [putI_at, putL_1, cpy8, n0, n1, n2, n3]
  · simp [putI_2, putL_at, cpy_2]
  · funext k
    simp [putI_at, putL_1, cpy8, h0, h1, h2, h3]
  · simp only [putI_2]
    rw [putL_row _ _ _ _ h0]
    rfl
theorem become_ok {σ : Mem} {b b1 : Nat} {S : FS} (hb : isFl b) (hb1 : isFl b1) (hne : b ≠ b1) (h : CR σ b1 S) : ∃ F, fX0_become b b1 σ = some F ∧ CR F b S ∧ FR b σ F := by
  obtain ⟨F, e, c1, ⟨c4, c5, c6, c7⟩, cl, cr, cr2⟩ := become_cells σ hb hb1 hne
  have hn := h.n
  obtain ⟨h0, h1, h2, h3, h4, h5, ρ, hρ, h6, h7⟩ := h
  have t := tx_fl hb hρ
  refine ⟨F, e, ⟨h0, by rw [c7]; exact h1, by rw [c4]; exact h2, by rw [c5]; exact h3, fun d hd => ?_, by rw [cl]; exact h5, ρ, hρ, by rw [c6]; exact h6, h7.mono (cr _ (t.1 0 (by omega)) (t.1 1 (by omega)) (t.1 2 (by omega)) (t.1 3 (by omega))) (cr _ (t.2 0 (by omega)) (t.2 1 (by omega)) (t.2 2 (by omega)) (t.2 3 (by omega)))⟩, fun j hj hk => cr j (hk 0 (by omega)) (hk 1 (by omega)) (hk 2 (by omega)) (hk 3 (by omega)), cr2⟩
  obtain ⟨a1, a2, a3⟩ := c1 d (by omega)
  rw [a1, a2, a3]
  exact h4 d hd
theorem fl_apart {b b' : Nat} (hb : isFl b) (hb' : isFl b') (h : b ≠ b') : ∀ i j, i < 6 → j < 6 → b + i ≠ b' + j := fun i j hi hj => by
  rcases hb with rfl | rfl | rfl | rfl <;> rcases hb' with rfl | rfl | rfl | rfl <;> omega
/-- another floor's changes don't reach this one -/
theorem CR.fr {σ σ' : Mem} {b b' : Nat} {S : FS} (hb : isFl b) (hb' : isFl b') (hne : b ≠ b') (h : CR σ b S) (q : FR b' σ σ') : CR σ' b S := by
  obtain ⟨s0, s1, s2, s3, _, _⟩ := scr_fl hb
  have a := fl_apart hb hb' hne
  refine h.same (q.1 _ s0 (fun k hk => a 0 k (by omega) (by omega))) (q.1 _ s1 (fun k hk => a 1 k (by omega) (by omega))) (q.1 _ s2 (fun k hk => a 2 k (by omega) (by omega))) (q.1 _ s3 (fun k hk => a 3 k (by omega) (by omega))) (by rw [q.2 _ hne]) (fun k hk => ?_)
  have t := tx_fl hb' hk
  exact ⟨q.1 _ (scr_tx k hk).2.1 (fun i hi => t.1 i (by omega)), q.1 _ (scr_tx k hk).2.2.1 (fun i hi => t.2 i (by omega))⟩
theorem think_ok {σ : Mem} {S : FS} (h : CR σ 40 S) {s : Nat} (hs : s < 24) : ∃ F, fX4_think (nI s) σ = some F ∧ CR F 52 (strokeS S s) ∧ FR 52 σ F := by
  obtain ⟨F, e, h1, q⟩ := become_ok fl52 fl40 (by decide) h
  obtain ⟨r, e2, _, h2, q2⟩ := brush_ok fl52 h1 hs
  refine ⟨r.2, ?_, h2, q.tr q2⟩
  unfold fX4_think
  rw [e, bn1_s, e2]
  rfl
/-! ===== are these gathered ===== -/
theorem bit_256 : ∀ m, m < 256 → ∀ d, d < 8 → (nI m >>> (nI d &&& 31)) &&& 1 = if m.testBit d then 1 else 0 := by decide +kernel
def gth (S : FS) (m : Nat) : Nat → Nat → Option Nat → Option (Option Nat)
  | 0, _, c => some c
  | k + 1, d, c => if m.testBit d then (match sA S d with
    | none => none
    | some x => if c = none ∨ c = some x then gth S m k (d + 1) (some x) else none) else gth S m k (d + 1) c
theorem gth_none {S : FS} {m : Nat} : ∀ k d c, gth S m k d c = some none → c = none ∧ ∀ e, d ≤ e → e < d + k → m.testBit e = false
  | 0, d, c, h => by simp [gth] at h; exact ⟨h, fun e h1 h2 => by omega⟩
  | k + 1, d, c, h => by
    unfold gth at h
    by_cases q : m.testBit d = true
    · rw [if_pos q] at h
      cases hx : sA S d with
      | none => rw [hx] at h; cases h
      | some x =>
        rw [hx] at h
        dsimp only at h
        split at h
        · have := (gth_none k (d + 1) (some x) h).1
          cases this
        · cases h
    · rw [if_neg q] at h
      obtain ⟨h1, h2⟩ := gth_none k (d + 1) c h
      refine ⟨h1, fun e h3 h4 => ?_⟩
      by_cases he : e = d
      · subst he; simpa using q
      · exact h2 e (by omega) (by omega)
def gthS (S : FS) (m : Nat) : Bool := (gth S m (sN S) 0 none).isSome
theorem gth_some {S : FS} {m : Nat} (h0 : 0 < m) (hm : m < 2 ^ sN S) : gth S m (sN S) 0 none ≠ some none := fun h => by
  obtain ⟨-, h2⟩ := gth_none _ _ _ h
  have : m = 0 := by
    apply Nat.eq_of_testBit_eq
    intro i
    rw [Nat.zero_testBit]
    by_cases hi : i < sN S
    · exact h2 i (by omega) (by omega)
    · exact Nat.testBit_lt_two_pow (Nat.lt_of_lt_of_le hm (Nat.pow_le_pow_right (by decide) (by omega)))
  omega
theorem gath_loop {σ : Mem} {b : Nat} {S : FS} (h : CR σ b S) {m : Nat} (hm : m < 256) : ∀ (k d fuel : Nat) (c : Option Nat), d + k = sN S → k < fuel → (∀ x, c = some x → x < 36) → loopN (fX0_areGathered_L4 b (nI m) σ) fuel (enc c, nI d) = some (match gth S m k d c with | some (some _) => 1 | _ => 0) := by
  have hn := h.n
  intro k
  induction k with
  | zero =>
    intro d fuel c hd hf hc
    cases fuel with
    | zero => omega
    | succ f =>
      show fX0_areGathered_L4 b (nI m) σ _ (enc c, nI d) = _
      unfold fX0_areGathered_L4 fX0_areGathered_b60
      dsimp only
      rw [h.2.1, if_pos (nI_le (by omega) (by omega))]
      cases c with
      | none => rfl
      | some x =>
        rw [if_neg (fun z => by have := (enc_none hc).mp z; cases this)]
        rfl
  | succ k ih =>
    intro d fuel c hd hf hc
    cases fuel with
    | zero => omega
    | succ f =>
      show fX0_areGathered_L4 b (nI m) σ (loopN (fX0_areGathered_L4 b (nI m) σ) f) (enc c, nI d) = _
      have ihK : ∀ c : Option Nat, (∀ x, c = some x → x < 36) → loopN (fX0_areGathered_L4 b (nI m) σ) f (enc c, nI (d + 1)) = some (match gth S m k (d + 1) c with | some (some _) => 1 | _ => 0) := fun c hc => ih (d + 1) f c (by omega) (by omega) hc
      generalize loopN (fX0_areGathered_L4 b (nI m) σ) f = K at ihK ⊢
      unfold fX0_areGathered_L4
      dsimp only
      have g8 : inB (nI d) 8 = true := inB_nI (by omega) (by omega)
      simp only [gd_of g8]
      rw [h.2.1, if_neg (nI_ge (by omega) (by omega)), bit_256 m hm d (by omega), rd_nI (by omega), (h.2.2.2.2.1 d (by omega)).2.2, nI_1]
      unfold gth
      by_cases q : m.testBit d = true
      · rw [if_pos q, if_neg (by decide), if_pos q]
        cases hx : sA S d with
        | none => rw [if_pos (show enc none = -1 from rfl)]
        | some x =>
          have hx36 := h.at36 (show d < sN S by omega) x hx
          have hx' : ∀ y, some x = some y → y < 36 := fun y hy => by cases hy; exact hx36
          dsimp only
          rw [if_neg (fun z => by have := (enc_none hx').mp z; cases this)]
          by_cases q2 : c = none
          · rw [if_pos ((enc_none hc).mpr q2), if_pos (Or.inl q2)]
            exact ihK (some x) hx'
          · rw [if_neg (fun z => q2 ((enc_none hc).mp z))]
            by_cases q3 : c = some x
            · rw [if_pos ((enc_eq hx' hc).mpr q3.symm), if_pos (Or.inr q3)]
              exact ihK (some x) hx'
            · rw [if_neg (fun z => q3 ((enc_eq hx' hc).mp z).symm), if_neg (fun z => z.elim q2 q3)]
      · rw [if_neg q, if_pos rfl, if_neg q]
        exact ihK c hc
theorem areGathered_ok {σ : Mem} {b : Nat} {S : FS} (h : CR σ b S) {m : Nat} (h0 : 0 < m) (hm : m < 2 ^ sN S) : fX0_areGathered b (nI m) σ = some (if gthS S m then 1 else 0) := by
  have hn := h.n
  have h256 : m < 256 := Nat.lt_of_lt_of_le hm (by have : 2 ^ sN S ≤ 2 ^ 8 := Nat.pow_le_pow_right (by decide) hn; omega)
  have h2 := gath_loop h h256 (sN S) 0 1000 none (by omega) (by omega) (fun x hx => by cases hx)
  have h3 := gth_some h0 hm
  unfold fX0_areGathered gthS
  rw [show (loopN (fX0_areGathered_L4 b (nI m) σ) 1000 (-1, 0)) = loopN (fX0_areGathered_L4 b (nI m) σ) 1000 (enc none, nI 0) from rfl, h2]
  generalize gth S m (sN S) 0 none = g at h3
  match g with
  | none => rfl
  | some none => exact absurd rfl h3
  | some (some _) => rfl
theorem mgath_loop {τ : Mem} {S : FS} (h : MR τ S) {m : Nat} (hm : m < 256) : ∀ (k d fuel : Nat) (c : Option Nat), d + k = sN S → k < fuel → (∀ x, c = some x → x < 36) → loopN (fX5_areTogether_L4 (nI m) τ) fuel (enc c, nI d) = some (match gth S m k d c with | some _ => 1 | none => 0) := by
  have hn := h.n
  intro k
  induction k with
  | zero =>
    intro d fuel c hd hf hc
    cases fuel with
    | zero => omega
    | succ f =>
      show fX5_areTogether_L4 (nI m) τ _ (enc c, nI d) = _
      unfold fX5_areTogether_L4
      dsimp only
      rw [h.2.1, if_pos (nI_le (by omega) (by omega))]
      rfl
  | succ k ih =>
    intro d fuel c hd hf hc
    cases fuel with
    | zero => omega
    | succ f =>
      show fX5_areTogether_L4 (nI m) τ (loopN (fX5_areTogether_L4 (nI m) τ) f) (enc c, nI d) = _
      have ihK : ∀ c : Option Nat, (∀ x, c = some x → x < 36) → loopN (fX5_areTogether_L4 (nI m) τ) f (enc c, nI (d + 1)) = some (match gth S m k (d + 1) c with | some _ => 1 | none => 0) := fun c hc => ih (d + 1) f c (by omega) (by omega) hc
      generalize loopN (fX5_areTogether_L4 (nI m) τ) f = K at ihK ⊢
      unfold fX5_areTogether_L4
      dsimp only
      have g8 : inB (nI d) 8 = true := inB_nI (by omega) (by omega)
      simp only [gd_of g8]
      rw [h.2.1, if_neg (nI_ge (by omega) (by omega)), bit_256 m hm d (by omega), rd_nI (by omega), (h.2.2.2.2.1 d (by omega)).2.2, nI_1]
      unfold gth
      by_cases q : m.testBit d = true
      · rw [if_pos q, if_pos rfl, if_pos q]
        cases hx : sA S d with
        | none => rw [if_pos (show enc none = -1 from rfl)]
        | some x =>
          have hx36 := h.at36 (show d < sN S by omega) x hx
          have hx' : ∀ y, some x = some y → y < 36 := fun y hy => by cases hy; exact hx36
          dsimp only
          rw [if_neg (fun z => by have := (enc_none hx').mp z; cases this)]
          by_cases q2 : c = none
          · rw [if_pos ((enc_none hc).mpr q2), if_pos (Or.inl q2)]
            exact ihK (some x) hx'
          · rw [if_neg (fun z => q2 ((enc_none hc).mp z))]
            by_cases q3 : c = some x
            · rw [if_pos ((enc_eq hx' hc).mpr q3.symm), if_pos (Or.inr q3)]
              exact ihK (some x) hx'
            · rw [if_neg (fun z => q3 ((enc_eq hx' hc).mp z).symm), if_neg (fun z => z.elim q2 q3)]
      · rw [if_neg q, if_neg (by decide), if_neg q]
        exact ihK c hc
theorem areTogether_ok {τ : Mem} {S : FS} (h : MR τ S) {m : Nat} (hm : m < 2 ^ sN S) : fX5_areTogether (nI m) τ = some (if gthS S m then 1 else 0) := by
  have hn := h.n
  have h256 : m < 256 := Nat.lt_of_lt_of_le hm (by have : 2 ^ sN S ≤ 2 ^ 8 := Nat.pow_le_pow_right (by decide) hn; omega)
  have h2 := mgath_loop h h256 (sN S) 0 1000 none (by omega) (by omega) (fun x hx => by cases hx)
  unfold fX5_areTogether gthS
  rw [show (loopN (fX5_areTogether_L4 (nI m) τ) 1000 (-1, 0)) = loopN (fX5_areTogether_L4 (nI m) τ) 1000 (enc none, nI 0) from rfl, h2]
  generalize gth S m (sN S) 0 none = g
  match g with
  | none => rfl
  | some _ => rfl
/-! ===== does anything lie elsewhere ===== -/
def dfr (A B : Nat → Option Nat) : Nat → Bool
  | 0 => false
  | n + 1 => dfr A B n || A n != B n
theorem dfr_mono {A B : Nat → Option Nat} {i : Nat} (h : A i ≠ B i) : ∀ n, i < n → dfr A B n = true
  | n + 1, hi => by
    simp only [dfr]
    by_cases e : i = n
    · subst e; simp [h]
    · rw [dfr_mono h n (by omega)]; rfl
theorem differs_ok {σ : Mem} {b b1 : Nat} {S T : FS} (h : CR σ b S) (h1 : CR σ b1 T) (hn : sN T = sN S) : fX0_differs b b1 σ = some (if dfr (sA S) (sA T) (sN S) then 1 else 0) := by
  have h8 := h.n
  have := loop_ex (b := fX0_differs_L2 b b1 σ) (fun i => nI i) (some (if dfr (sA S) (sA T) (sN S) then 1 else 0)) (sN S) (fun i => dfr (sA S) (sA T) i = false) (fun i hi hP => by
    have g8 : inB (nI i) 8 = true := inB_nI (by omega) (by omega)
    have body : ∀ ih, fX0_differs_L2 b b1 σ ih (nI i) = if enc (sA S i) = enc (sA T i) then ih (nI (i + 1)) else some 1 := fun ih => by
      unfold fX0_differs_L2
      dsimp only
      rw [h.2.1, if_neg (nI_ge hi (by omega)), gd_of g8, gd_of g8, rd_nI (by omega), rd_nI (by omega), (h.2.2.2.2.1 i hi).2.2, (h1.2.2.2.2.1 i (by omega)).2.2, nI_1]
    by_cases q : sA S i = sA T i
    · left
      refine ⟨fun ih => by rw [body, if_pos (by rw [q])], ?_⟩
      simp only [dfr]
      rw [hP, q]
      simp
    · right
      intro ih
      rw [body, if_neg (fun z => q ((enc_eq (h.at36 hi) (h1.at36 (by omega))).mp z)), dfr_mono q _ hi, if_pos rfl]) (fun hP ih => by
    unfold fX0_differs_L2
    dsimp only
    rw [h.2.1, if_pos (nI_le (Nat.le_refl _) (by omega)), hP]
    rfl) 1000 0 (Nat.zero_le _) (by omega) rfl
  exact this
/-! ===== heaps of the class ===== -/
theorem mkb_ne (p : Nat → Bool) (n : Nat) : (mkb p (n + 1) != 0) = (mkb p n != 0 || p n) := by
  simp only [mkb]
  by_cases q : p n = true
  · have : 0 < 2 ^ n := Nat.two_pow_pos n
    rw [if_pos q, q, Bool.or_true]
    simp
  · rw [if_neg q]
    have : p n = false := by simpa using q
    rw [this, Bool.or_false, Nat.add_zero]
def occS (S : FS) (c : Nat) : Bool := whoS S (some c) != 0
theorem heapBits_ok {σ : Mem} {b : Nat} {S : FS} (h : CR σ b S) : ∃ x, fX0_heapBits b σ = some x ∧ LB x (occS S) := by
  have h8 := h.n
  refine loop_in (b := fX0_heapBits_L4 b σ) (fun i v => v.2 = nI i ∧ LB v.1 (fun c => mkb (fun d => sA S d == some c) i != 0)) (fun x => LB x (occS S)) (sN S) ?_ ?_ 1000 0 (0, 0) (Nat.zero_le _) (by omega) ⟨rfl, LB_0⟩
  · rintro i ⟨x, y⟩ hi ⟨hy, hx⟩
    dsimp only at hy hx
    subst hy
    have g8 : inB (nI i) 8 = true := inB_nI (by omega) (by omega)
    cases hc : sA S i with
    | none =>
      refine ⟨(x, nI (i + 1)), fun ih => ?_, rfl, hx.congr (fun c _ => ?_)⟩
      · unfold fX0_heapBits_L4
        dsimp only
        rw [h.2.1, if_neg (nI_ge hi (by omega)), gd_of g8, rd_nI (by omega), (h.2.2.2.2.1 i hi).2.2, hc, if_pos (show enc none = -1 from rfl), nI_1]
      · rw [mkb_ne, hc]
        simp
    | some c =>
      have hc36 := h.at36 hi c hc
      refine ⟨(x ||| ((1 : Int64) <<< ((nI c).toInt64 &&& 63)), nI (i + 1)), fun ih => ?_, rfl, (hx.or hc36).congr (fun e _ => ?_)⟩
      · unfold fX0_heapBits_L4
        dsimp only
        rw [h.2.1, if_neg (nI_ge hi (by omega)), gd_of g8, rd_nI (by omega), (h.2.2.2.2.1 i hi).2.2, hc, if_neg (fun z => by have := (enc_none (a := some c) (fun x hx => by cases hx; exact hc36)).mp z; cases this), gd_of g8, nI_1]
        rfl
      · rw [mkb_ne, hc]
        congr 1
        rw [show (some c == some e) = (c == e) from rfl, Bool.eq_iff_iff, beq_iff_eq, beq_iff_eq]
        exact ⟨Eq.symm, Eq.symm⟩
  · rintro ⟨x, y⟩ ⟨hy, hx⟩
    dsimp only at hy hx
    subst hy
    refine ⟨x, fun ih => ?_, hx⟩
    unfold fX0_heapBits_L4
    dsimp only
    rw [h.2.1, if_pos (nI_le (Nat.le_refl _) (by omega))]
theorem mkb_0 {p : Nat → Bool} : ∀ n, (∀ i, i < n → p i = false) → mkb p n = 0
  | 0, _ => rfl
  | n + 1, h => by simp only [mkb]; rw [mkb_0 n (fun i hi => h i (by omega)), h n (by omega)]; rfl
theorem occ_out {S : FS} (h : okS S) {c : Nat} (hc : 36 ≤ c) : occS S c = false := by
  unfold occS whoS
  rw [mkb_0 _ (fun d hd => ?_)]
  · rfl
  · by_cases q : sA S d = some c
    · have := (h.2.1 d hd).2.2 c q
      omega
    · simp [q]
theorem heaps_ok {σ : Mem} {b : Nat} {S : FS} (h : CR σ b S) : fX0_heaps b σ = some (nI (heapsS S)) := by
  obtain ⟨x, e, hx⟩ := heapBits_ok h
  unfold fX0_heaps
  rw [e, bn1_s, bitCount_LB hx (fun i hi _ => occ_out h.1 hi), bn1_s]
  rfl
