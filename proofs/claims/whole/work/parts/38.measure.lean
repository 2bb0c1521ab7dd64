/-! ===== measures of a floor ===== -/
def mx (f : Nat → Nat) : Nat → Nat
  | 0 => 0
  | n + 1 => max (mx f n) (f n)
def sm (f : Nat → Nat) : Nat → Nat
  | 0 => 0
  | n + 1 => sm f n + f n
theorem mx_le {f : Nat → Nat} {m : Nat} : ∀ n, (∀ i, i < n → f i ≤ m) → mx f n ≤ m
  | 0, _ => Nat.zero_le _
  | n + 1, h => by
    have := mx_le n (fun i hi => h i (by omega))
    have := h n (by omega)
    simp only [mx]; omega
theorem le_mx {f : Nat → Nat} {i : Nat} : ∀ n, i < n → f i ≤ mx f n
  | n + 1, h => by
    simp only [mx]
    by_cases e : i = n
    · subst e; omega
    · have := le_mx (f := f) n (show i < n by omega); omega
theorem sm_congr {f g : Nat → Nat} : ∀ n, (∀ i, i < n → f i = g i) → sm f n = sm g n
  | 0, _ => rfl
  | n + 1, h => by simp only [sm]; rw [sm_congr n (fun i hi => h i (by omega)), h n (by omega)]
theorem sm_add {f g : Nat → Nat} : ∀ n, sm (fun i => f i + g i) n = sm f n + sm g n
  | 0 => rfl
  | n + 1 => by simp only [sm]; rw [sm_add n]; omega
theorem sm_le {f : Nat → Nat} {m : Nat} : ∀ n, (∀ i, i < n → f i ≤ m) → sm f n ≤ n * m
  | 0, _ => by simp [sm]
  | n + 1, h => by
    have := sm_le n (fun i hi => h i (by omega))
    have := h n (by omega)
    simp only [sm]; rw [Nat.succ_mul]; omega
theorem sm_0 {f : Nat → Nat} : ∀ n, (∀ i, i < n → f i = 0) → sm f n = 0
  | 0, _ => rfl
  | n + 1, h => by simp only [sm]; rw [sm_0 n (fun i hi => h i (by omega)), h n (by omega)]
/-- each pair once, from the one side and from the other -/
theorem sm_pairs (t : Nat → Nat → Nat) (ht : ∀ i j, t i j = t j i) : ∀ n, sm (fun i => sm (fun j => if i < j then t i j else 0) n) n = sm (fun i => sm (t i) i) n
  | 0 => rfl
  | n + 1 => by
    have ih := sm_pairs t ht n
    simp only [sm]
    have e1 : sm (fun i => sm (fun j => if i < j then t i j else 0) n + (if i < n then t i n else 0)) n = sm (fun i => sm (fun j => if i < j then t i j else 0) n) n + sm (fun i => t n i) n := by
      rw [sm_add]
      congr 1
      exact sm_congr n (fun i hi => by rw [if_pos hi, ht])
    rw [e1, ih]
    have e2 : sm (fun j => if n < j then t n j else 0) n = 0 := sm_0 n (fun j hj => by rw [if_neg (by omega)])
    rw [e2]
    simp
def greatS (S : FS) : Nat := mx (fun d => if sA S d = none then 0 else kinS S d) (sN S)
def togS (S : FS) (i j : Nat) : Nat := if sA S i ≠ none ∧ sA S i = sA S j then 1 else 0
def togetherS (S : FS) : Nat := sm (fun i => sm (togS S i) i) (sN S)
def dif (a b : Nat) : Nat := (a - b) + (b - a)
def sprS (S : FS) (i j : Nat) : Nat := match sA S i, sA S j with
  | some c, some e => dif (c % 6) (e % 6) + dif (c / 6) (e / 6)
  | _, _ => 0
def spreadS (S : FS) : Nat := sm (fun i => sm (sprS S i) i) (sN S)
def heapsS (S : FS) : Nat := cnt (fun c => whoS S (some c) != 0) 36
theorem togS_sym (S : FS) (i j : Nat) : togS S i j = togS S j i := by
  unfold togS
  by_cases q : sA S i = sA S j
  · rw [q]
  · rw [if_neg (fun z => q z.2), if_neg (fun z => q z.2.symm)]
theorem dif_sym (a b : Nat) : dif a b = dif b a := by unfold dif; omega
theorem sprS_sym (S : FS) (i j : Nat) : sprS S i j = sprS S j i := by
  unfold sprS
  cases sA S i <;> cases sA S j <;> simp [dif_sym]
theorem togS_le (S : FS) (i j : Nat) : togS S i j ≤ 1 := by unfold togS; split <;> omega
theorem greatS_le (S : FS) : greatS S ≤ sN S := mx_le _ (fun i hi => by
  have := kinS_le S i
  split <;> omega)
section MC
variable {σ : Mem} {b : Nat} {S : FS}
theorem greatest_ok (h : CR σ b S) : fX0_greatest b σ = some (nI (greatS S)) := by
  have hn := h.n
  have hle : ∀ i, i ≤ sN S → mx (fun d => if sA S d = none then 0 else kinS S d) i ≤ 8 := fun i hi => mx_le i (fun d hd => by
    have := kinS_le S d
    split <;> omega)
  have := loop_up (b := fX0_greatest_L4 b σ) (fun i => (nI (mx (fun d => if sA S d = none then 0 else kinS S d) i), nI i)) (some (nI (greatS S))) (sN S) (fun i hi ih => by
    unfold fX0_greatest_L4
    dsimp only
    have hk := kinS_le S i
    have hm := hle i (by omega)
    rw [h.2.1, if_neg (nI_ge hi (by omega)), gd_of (inB_nI (by omega) (by omega)), rd_nI (by omega), (h.2.2.2.2.1 i hi).2.2, kin_ok h hi, bn1_s, nI_1]
    by_cases q : sA S i = none
    · rw [if_pos ((enc_none (h.at36 hi)).mpr q)]
      simp [mx, q]
    · rw [if_neg (fun z => q ((enc_none (h.at36 hi)).mp z))]
      congr 2
      simp only [mx]
      rw [if_neg q]
      by_cases q2 : mx (fun d => if sA S d = none then 0 else kinS S d) i < kinS S i
      · rw [if_pos ((nI_ltI (by omega) (by omega)).mpr q2), Nat.max_eq_right (by omega)]
      · rw [if_neg (fun z => q2 ((nI_ltI (by omega) (by omega)).mp z)), Nat.max_eq_left (by omega)]) (fun ih => by
    unfold fX0_greatest_L4
    dsimp only
    rw [h.2.1, if_pos (nI_le (Nat.le_refl _) (by omega))]
    rfl) 1000 0 (Nat.zero_le _) (by omega)
  exact this
theorem together_ok (h : CR σ b S) : fX0_together b σ = some (nI (togetherS S)) := by
  have hn := h.n
  have inner : ∀ ih4 i y, i < sN S → loopN (fX0_together_L14 b σ ih4) 1000 (nI y, nI i, 0) = ih4 (nI (y + sm (togS S i) i), nI (i + 1)) := fun ih4 i y hi => by
    have := loop_up (b := fX0_together_L14 b σ ih4) (fun j => (nI (y + sm (togS S i) j), nI i, nI j)) (ih4 (nI (y + sm (togS S i) i), nI (i + 1))) i (fun j hj ih => by
      unfold fX0_together_L14
      dsimp only
      rw [if_neg (nI_ge hj (by omega))]
      have gi : inB (nI i) 8 = true := inB_nI (by omega) (by omega)
      have gj : inB (nI j) 8 = true := inB_nI (by omega) (by omega)
      rw [gd_of gi, gd_of gi, gd_of gj, rd_nI (by omega), rd_nI (by omega), (h.2.2.2.2.1 i hi).2.2, (h.2.2.2.2.1 j (by omega)).2.2, nI_1, nI_1]
      simp only [sm]
      by_cases q : sA S i = none
      · rw [if_pos ((enc_none (h.at36 hi)).mpr q), show togS S i j = 0 by unfold togS; rw [if_neg (fun z => z.1 q)]]
        rfl
      · rw [if_neg (fun z => q ((enc_none (h.at36 hi)).mp z))]
        by_cases q2 : sA S i = sA S j
        · rw [if_pos ((enc_eq (h.at36 hi) (h.at36 (by omega))).mpr q2), show togS S i j = 1 by unfold togS; rw [if_pos ⟨q, q2⟩]]
          rfl
        · rw [if_neg (fun z => q2 ((enc_eq (h.at36 hi) (h.at36 (by omega))).mp z)), show togS S i j = 0 by unfold togS; rw [if_neg (fun z => q2 z.2)]]
          rfl) (fun ih => by
      unfold fX0_together_L14
      dsimp only
      rw [if_pos (nI_le (Nat.le_refl _) (by omega)), nI_1]) 1000 0 (Nat.zero_le _) (by omega)
    exact this
  have := loop_up (b := fX0_together_L4 b σ) (fun i => (nI (sm (fun i => sm (togS S i) i) i), nI i)) (some (nI (togetherS S))) (sN S) (fun i hi ih => by
    unfold fX0_together_L4
    dsimp only
    rw [h.2.1, if_neg (nI_ge hi (by omega)), inner ih i _ hi]
    rfl) (fun ih => by
    unfold fX0_together_L4
    dsimp only
    rw [h.2.1, if_pos (nI_le (Nat.le_refl _) (by omega))]
    rfl) 1000 0 (Nat.zero_le _) (by omega)
  exact this
theorem dif_6 : ∀ a, a < 6 → ∀ e, e < 6 → (if 0 ≤ nI a - nI e then nI a - nI e else 0 - (nI a - nI e)) = nI (dif a e) := by decide +kernel
theorem spread_ok (h : CR σ b S) : fX0_spread b σ = some (nI (spreadS S)) := by
  have hn := h.n
  have inner : ∀ ih4 i y, i < sN S → loopN (fX0_spread_L14 b σ ih4) 1000 (nI y, nI i, 0) = ih4 (nI (y + sm (sprS S i) i), nI (i + 1)) := fun ih4 i y hi => by
    have := loop_up (b := fX0_spread_L14 b σ ih4) (fun j => (nI (y + sm (sprS S i) j), nI i, nI j)) (ih4 (nI (y + sm (sprS S i) i), nI (i + 1))) i (fun j hj ih => by
      unfold fX0_spread_L14
      dsimp only
      rw [if_neg (nI_ge hj (by omega))]
      have gi : inB (nI i) 8 = true := inB_nI (by omega) (by omega)
      have gj : inB (nI j) 8 = true := inB_nI (by omega) (by omega)
      simp only [gd_of gi, gd_of gj]
      rw [rd_nI (by omega), rd_nI (by omega), (h.2.2.2.2.1 i hi).2.2, (h.2.2.2.2.1 j (by omega)).2.2, nI_1]
      simp only [sm]
      cases hc : sA S i with
      | none =>
        rw [if_pos (show enc none = -1 from rfl), show sprS S i j = 0 by unfold sprS; rw [hc]]
        rfl
      | some c =>
        have hc36 := h.at36 hi c hc
        rw [if_neg (fun z => by have := (enc_none (a := some c) (fun x hx => by cases hx; exact hc36)).mp z; cases this)]
        cases he : sA S j with
        | none =>
          rw [if_pos (show enc none = -1 from rfl), show sprS S i j = 0 by unfold sprS; rw [hc, he]]
          rfl
        | some e =>
          have he36 := h.at36 (show j < sN S by omega) e he
          rw [if_neg (fun z => by have := (enc_none (a := some e) (fun x hx => by cases hx; exact he36)).mp z; cases this)]
          rw [show enc (some c) = nI c from rfl, show enc (some e) = nI e from rfl, (div6 c hc36).2, (div6 e he36).2, (div6 c hc36).1, (div6 e he36).1, dif_6 _ (by omega) _ (by omega), dif_6 _ (by omega) _ (by omega), nI_add, nI_add, show sprS S i j = dif (c % 6) (e % 6) + dif (c / 6) (e / 6) by unfold sprS; rw [hc, he]]
          rw [Nat.add_assoc, Nat.add_assoc]) (fun ih => by
      unfold fX0_spread_L14
      dsimp only
      rw [if_pos (nI_le (Nat.le_refl _) (by omega)), nI_1]) 1000 0 (Nat.zero_le _) (by omega)
    exact this
  have := loop_up (b := fX0_spread_L4 b σ) (fun i => (nI (sm (fun i => sm (sprS S i) i) i), nI i)) (some (nI (spreadS S))) (sN S) (fun i hi ih => by
    unfold fX0_spread_L4
    dsimp only
    rw [h.2.1, if_neg (nI_ge hi (by omega)), inner ih i _ hi]
    rfl) (fun ih => by
    unfold fX0_spread_L4
    dsimp only
    rw [h.2.1, if_pos (nI_le (Nat.le_refl _) (by omega))]
    rfl) 1000 0 (Nat.zero_le _) (by omega)
  exact this
end MC
section MM
variable {τ : Mem} {S : FS}
theorem cnt_pos {p : Nat → Bool} : ∀ n, 0 < cnt p n → ∃ i, i < n ∧ p i = true
  | 0, h => by simp [cnt] at h
  | n + 1, h => by
    simp only [cnt] at h
    by_cases q : p n = true
    · exact ⟨n, by omega, q⟩
    · rw [if_neg q] at h
      obtain ⟨i, h1, h2⟩ := cnt_pos n h
      exact ⟨i, by omega, h2⟩
def hereS (S : FS) (c : Nat) : Nat := cnt (fun d => sA S d == some c) (sN S)
theorem bits_who (h : MR τ S) (o : Option Nat) : fX5_bitsOf (nI (whoS S o)) τ = some (nI (cnt (fun d => sA S d == o) (sN S))) := by
  unfold whoS
  rw [bitsOf_ok τ (mkb_256 _ h.n), pc8_mkb _ _ h.n]
theorem great_eq (hS : okS S) : mx (hereS S) 36 = greatS S := by
  apply Nat.le_antisymm
  · refine mx_le 36 (fun c hc => ?_)
    rcases Nat.eq_zero_or_pos (hereS S c) with q | q
    · omega
    · obtain ⟨d, h1, h2⟩ := cnt_pos (sN S) q
      have h2 : sA S d = some c := by simpa using h2
      have := le_mx (f := fun d => if sA S d = none then 0 else kinS S d) (sN S) h1
      have e : (if sA S d = none then 0 else kinS S d) = hereS S c := by
        rw [if_neg (by rw [h2]; exact fun z => by cases z)]
        unfold kinS hereS
        rw [h2]
      rw [e] at this
      exact this
  · refine mx_le _ (fun d hd => ?_)
    cases hc : sA S d with
    | none => simp
    | some c =>
      have hc36 := (hS.2.1 d hd).2.2 c hc
      have := le_mx (f := hereS S) 36 hc36
      have e : kinS S d = hereS S c := by unfold kinS hereS; rw [hc]
      rw [if_neg (fun z => by cases z), e]
      exact this
theorem mgreatest_ok (h : MR τ S) : fX5_greatest τ = some (nI (greatS S)) := by
  have hn := h.n
  have hc8 : ∀ c, hereS S c ≤ 8 := fun c => Nat.le_trans (cnt_le _ _) hn
  have hle : ∀ i, mx (hereS S) i ≤ 8 := fun i => mx_le i (fun c _ => hc8 c)
  have := loop_up (b := fX5_greatest_L4 τ) (fun i => (nI (mx (hereS S) i), nI i)) (some (nI (greatS S))) 36 (fun i hi ih => by
    unfold fX5_greatest_L4
    dsimp only
    have hw : fX5_whoIn (nI i) τ = some (nI (whoS S (some i))) := whoIn_ok h (o := some i) (fun c q => by cases q; exact hi)
    have h1 := hc8 i
    have h2 := hle i
    rw [if_neg (show ¬ (36 : Int32) ≤ nI i from nI_ge (b := 36) (by omega) (by omega)), hw, bn1_s, bits_who h, bn1_s, bn1_s, bits_who h, bn1_s, nI_1]
    change (if nI (hereS S i) ≤ nI (mx (hereS S) i) then ih (nI (mx (hereS S) i), nI (i + 1)) else ih (nI (hereS S i), nI (i + 1))) = ih (nI (mx (hereS S) (i + 1)), nI (i + 1))
    simp only [mx]
    by_cases q : hereS S i ≤ mx (hereS S) i
    · rw [if_pos ((nI_leI (by omega) (by omega)).mpr q), Nat.max_eq_left q]
    · rw [if_neg (fun z => q ((nI_leI (by omega) (by omega)).mp z)), Nat.max_eq_right (by omega)]) (fun ih => by
    unfold fX5_greatest_L4
    dsimp only
    rw [if_pos (show (36 : Int32) ≤ nI 36 by decide), great_eq h.1]) 1000 0 (Nat.zero_le _) (by omega)
  exact this
theorem mheaps_ok (h : MR τ S) : fX5_heaps τ = some (nI (heapsS S)) := by
  have hn := h.n
  have := loop_up (b := fX5_heaps_L4 τ) (fun i => (nI (cnt (fun c => whoS S (some c) != 0) i), nI i)) (some (nI (heapsS S))) 36 (fun i hi ih => by
    unfold fX5_heaps_L4
    dsimp only
    have hw : fX5_whoIn (nI i) τ = some (nI (whoS S (some i))) := whoIn_ok h (o := some i) (fun c q => by cases q; exact hi)
    have hlt : whoS S (some i) < 256 := mkb_256 _ hn
    rw [if_neg (show ¬ (36 : Int32) ≤ nI i from nI_ge (b := 36) (by omega) (by omega)), hw, bn1_s, if_eq_lit (L := 0) (k := 0) rfl (by omega) (by decide), nI_1, nI_1]
    simp only [cnt]
    by_cases q : whoS S (some i) = 0
    · rw [if_pos q, if_neg (by simp [q]), show nI (cnt (fun c => whoS S (some c) != 0) i) + 0 = nI (cnt (fun c => whoS S (some c) != 0) i + 0) from nI_add _ 0]
    · rw [if_neg q, if_pos (by simp [q])]) (fun ih => by
    unfold fX5_heaps_L4
    dsimp only
    rw [if_pos (show (36 : Int32) ≤ nI 36 by decide)]
    rfl) 1000 0 (Nat.zero_le _) (by omega)
  exact this
theorem loop_from {V α : Type} {b : (V → Option α) → V → Option α} (st : Nat → V) (fin : Option α) (n k0 : Nat) (hs : ∀ i, k0 ≤ i → i < n → ∀ ih, b ih (st i) = ih (st (i + 1))) (he : ∀ ih, b ih (st n) = fin) : ∀ (fuel k : Nat), k0 ≤ k → k ≤ n → n - k < fuel → loopN b fuel (st k) = fin
  | 0, k, _, _, h => absurd h (by omega)
  | f + 1, k, h0, hk, h => by
    by_cases hkn : k = n
    · subst hkn; exact he _
    · show b (loopN b f) (st k) = fin
      rw [hs k h0 (by omega)]
      exact loop_from st fin n k0 hs he f (k + 1) (by omega) (by omega) (by omega)
theorem sm_upto {t : Nat → Nat} (i : Nat) : sm (fun j => if i < j then t j else 0) (i + 1) = 0 := sm_0 _ (fun j hj => by rw [if_neg (by omega)])
theorem mtogethers_ok (h : MR τ S) : fX5_togethers τ = some (nI (togetherS S)) := by
  have hn := h.n
  have inner : ∀ ih4 i y, i < sN S → loopN (fX5_togethers_L16 τ ih4) 1000 (nI y, nI i, nI (i + 1)) = ih4 (nI (y + sm (fun j => if i < j then togS S i j else 0) (sN S)), nI (i + 1)) := fun ih4 i y hi => by
    have := loop_from (b := fX5_togethers_L16 τ ih4) (fun j => (nI (y + sm (fun j => if i < j then togS S i j else 0) j), nI i, nI j)) (ih4 (nI (y + sm (fun j => if i < j then togS S i j else 0) (sN S)), nI (i + 1))) (sN S) (i + 1) (fun j hij hj ih => by
      unfold fX5_togethers_L16
      dsimp only
      have gi : inB (nI i) 8 = true := inB_nI (by omega) (by omega)
      have gj : inB (nI j) 8 = true := inB_nI (by omega) (by omega)
      simp only [gd_of gi, gd_of gj]
      rw [h.2.1, if_neg (nI_ge hj (by omega)), rd_nI (by omega), rd_nI (by omega), (h.2.2.2.2.1 i hi).2.2, (h.2.2.2.2.1 j hj).2.2, nI_1, nI_1, show ∀ z, nI z + 0 = nI z from fun z => nI_add z 0]
      simp only [sm]
      rw [if_pos (show i < j by omega)]
      by_cases q : sA S i = none
      · rw [if_pos ((enc_none (h.at36 hi)).mpr q), show togS S i j = 0 by unfold togS; rw [if_neg (fun z => z.1 q)]]
        rfl
      · rw [if_neg (fun z => q ((enc_none (h.at36 hi)).mp z))]
        by_cases q2 : sA S i = sA S j
        · rw [if_pos ((enc_eq (h.at36 hi) (h.at36 hj)).mpr q2), show togS S i j = 1 by unfold togS; rw [if_pos ⟨q, q2⟩]]
          rfl
        · rw [if_neg (fun z => q2 ((enc_eq (h.at36 hi) (h.at36 hj)).mp z)), show togS S i j = 0 by unfold togS; rw [if_neg (fun z => q2 z.2)]]
          rfl) (fun ih => by
      unfold fX5_togethers_L16
      dsimp only
      rw [h.2.1, if_pos (nI_le (Nat.le_refl _) (by omega)), nI_1]) 1000 (i + 1) (Nat.le_refl _) (by omega) (by omega)
    rw [sm_upto, Nat.add_zero] at this
    exact this
  have := loop_up (b := fX5_togethers_L4 τ) (fun i => (nI (sm (fun i => sm (fun j => if i < j then togS S i j else 0) (sN S)) i), nI i)) (some (nI (togetherS S))) (sN S) (fun i hi ih => by
    unfold fX5_togethers_L4
    dsimp only
    rw [h.2.1, if_neg (nI_ge hi (by omega)), nI_1, inner ih i _ hi]
    rfl) (fun ih => by
    unfold fX5_togethers_L4
    dsimp only
    rw [h.2.1, if_pos (nI_le (Nat.le_refl _) (by omega)), sm_pairs _ (togS_sym S)]
    rfl) 1000 0 (Nat.zero_le _) (by omega)
  exact this
theorem apart_6 : ∀ a, a < 6 → ∀ e, e < 6 → fX5_apart (nI a) (nI e) zeroM = some (nI (dif a e)) := by decide +kernel
theorem apart_ok (σ : Mem) {a e : Nat} (ha : a < 6) (he : e < 6) : fX5_apart (nI a) (nI e) σ = some (nI (dif a e)) := (rfl : fX5_apart (nI a) (nI e) σ = fX5_apart (nI a) (nI e) zeroM).trans (apart_6 a ha e he)
theorem mspread_ok (h : MR τ S) : fX5_spread τ = some (nI (spreadS S)) := by
  have hn := h.n
  have inner : ∀ ih4 i y, i < sN S → loopN (fX5_spread_L16 τ ih4) 1000 (nI y, nI i, nI (i + 1)) = ih4 (nI (y + sm (fun j => if i < j then sprS S i j else 0) (sN S)), nI (i + 1)) := fun ih4 i y hi => by
    have := loop_from (b := fX5_spread_L16 τ ih4) (fun j => (nI (y + sm (fun j => if i < j then sprS S i j else 0) j), nI i, nI j)) (ih4 (nI (y + sm (fun j => if i < j then sprS S i j else 0) (sN S)), nI (i + 1))) (sN S) (i + 1) (fun j hij hj ih => by
      unfold fX5_spread_L16 fX5_spread_b48 fX5_spread_b49
      dsimp only
      have gi : inB (nI i) 8 = true := inB_nI (by omega) (by omega)
      have gj : inB (nI j) 8 = true := inB_nI (by omega) (by omega)
      simp only [gd_of gi, gd_of gj]
      rw [h.2.1, if_neg (nI_ge hj (by omega)), rd_nI (by omega), rd_nI (by omega), (h.2.2.2.2.1 i hi).2.2, (h.2.2.2.2.1 j hj).2.2, nI_1, show ∀ z, nI z + 0 = nI z from fun z => nI_add z 0]
      simp only [sm]
      rw [if_pos (show i < j by omega), if_pos trivial, if_neg (show ¬ (1 : Int32) = 0 by decide)]
      cases hc : sA S i with
      | none =>
        rw [if_pos (show enc none = -1 from rfl), show sprS S i j = 0 by unfold sprS; rw [hc]]
        rfl
      | some c =>
        have hc36 := h.at36 hi c hc
        rw [if_neg (fun z => by have := (enc_none (a := some c) (fun x hx => by cases hx; exact hc36)).mp z; cases this)]
        cases he : sA S j with
        | none =>
          rw [if_pos (show enc none = -1 from rfl), show sprS S i j = 0 by unfold sprS; rw [hc, he]]
          rfl
        | some e =>
          have he36 := h.at36 hj e he
          rw [if_neg (fun z => by have := (enc_none (a := some e) (fun x hx => by cases hx; exact he36)).mp z; cases this)]
          rw [show enc (some c) = nI c from rfl, show enc (some e) = nI e from rfl, (div6 c hc36).2, (div6 e he36).2, (div6 c hc36).1, (div6 e he36).1, apart_ok τ (by omega) (by omega), bn1_s, apart_ok τ (by omega) (by omega), bn1_s, nI_add, nI_add, show sprS S i j = dif (c % 6) (e % 6) + dif (c / 6) (e / 6) by unfold sprS; rw [hc, he]]
          rw [Nat.add_comm (dif (c % 6) (e % 6)), Nat.add_assoc]) (fun ih => by
      unfold fX5_spread_L16
      dsimp only
      rw [h.2.1, if_pos (nI_le (Nat.le_refl _) (by omega)), nI_1]) 1000 (i + 1) (Nat.le_refl _) (by omega) (by omega)
    rw [sm_upto, Nat.add_zero] at this
    exact this
  have := loop_up (b := fX5_spread_L4 τ) (fun i => (nI (sm (fun i => sm (fun j => if i < j then sprS S i j else 0) (sN S)) i), nI i)) (some (nI (spreadS S))) (sN S) (fun i hi ih => by
    unfold fX5_spread_L4
    dsimp only
    rw [h.2.1, if_neg (nI_ge hi (by omega)), nI_1, inner ih i _ hi]
    rfl) (fun ih => by
    unfold fX5_spread_L4
    dsimp only
    rw [h.2.1, if_pos (nI_le (Nat.le_refl _) (by omega)), sm_pairs _ (sprS_sym S)]
    rfl) 1000 0 (Nat.zero_le _) (by omega)
  exact this
end MM
