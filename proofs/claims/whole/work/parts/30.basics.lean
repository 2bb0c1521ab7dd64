/-! ===== the pure side: basics ===== -/
theorem gd_of {α : Type} {b : Bool} {x : Option α} (h : b = true) : gd b x = x := by rw [h]; rfl
theorem bnd_s {α β γ : Type} {a : β} {b : γ} {k : β → γ → Option α} : bnd (some (a, b)) k = k a b := rfl
theorem bn1_s {α β : Type} {b : β} {k : β → Option α} : bn1 (some b) k = k b := rfl
theorem pur_s {β : Type} {b : β} {σ : Mem} : pur (some b) σ = some (b, σ) := rfl
theorem stp_e {β γ : Type} {x : β} {k : β → γ} : stp x k = k x := rfl
theorem inB_nI {k n : Nat} (h : k < n) (hn : n < 2147483648) : inB (nI k) n = true := inB_iff.mpr (vp_in_nI h hn)
theorem rd_nI {σ : Mem} {j k : Nat} (h : k < 2147483648) : rd σ j (nI k) = σ.1 j k := by unfold rd; rw [nI_clamp h]
theorem wr_nI {σ : Mem} {j k : Nat} {v : Int32} (h : k < 2147483648) : wr σ j (nI k) v = putI σ j k v := by unfold wr; rw [nI_clamp h]
theorem putI_at (σ : Mem) (j k : Nat) (v : Int32) (j' k' : Nat) : (putI σ j k v).1 j' k' = if j' = j ∧ k' = k then v else σ.1 j' k' := by
  unfold putI upd
  by_cases h : j' = j
  · subst h; by_cases h2 : k' = k <;> simp [h2]
  · simp [h]
theorem putI_row (σ : Mem) (j k : Nat) (v : Int32) {j' : Nat} (h : j' ≠ j) : (putI σ j k v).1 j' = σ.1 j' := by
  unfold putI; simp [h]
theorem putI_2 (σ : Mem) (j k : Nat) (v : Int32) : (putI σ j k v).2 = σ.2 := rfl
theorem putR_at (σ : Mem) (j : Nat) (f : Nat → Int32) (j' : Nat) : (putR σ j f).1 j' = if j' = j then f else σ.1 j' := by
  unfold putR; rfl
theorem putR_2 (σ : Mem) (j : Nat) (f : Nat → Int32) : (putR σ j f).2 = σ.2 := rfl
theorem lit_nI (n : Nat) : @OfNat.ofNat Int32 n Int32.instOfNat = nI n := rfl
theorem nI_inj {a b : Nat} (ha : a < 2147483648) (hb : b < 2147483648) (h : nI a = nI b) : a = b := (nI_eq ha hb).mp h
/-- a loop that goes on up to n by a told row of states, and ends there -/
theorem loop_up {V α : Type} {b : (V → Option α) → V → Option α} (st : Nat → V) (fin : Option α) (n : Nat) (hs : ∀ i, i < n → ∀ ih, b ih (st i) = ih (st (i + 1))) (he : ∀ ih, b ih (st n) = fin) : ∀ (fuel k : Nat), k ≤ n → n - k < fuel → loopN b fuel (st k) = fin
  | 0, k, _, h => absurd h (by omega)
  | f + 1, k, hk, h => by
    by_cases hkn : k = n
    · subst hkn; exact he _
    · show b (loopN b f) (st k) = fin
      rw [hs k (by omega)]
      exact loop_up st fin n hs he f (k + 1) (by omega) (by omega)
/-- the same by an invariant -/
theorem loop_in {V α : Type} {b : (V → Option α) → V → Option α} (I : Nat → V → Prop) (Post : α → Prop) (n : Nat) (hs : ∀ i v, i < n → I i v → ∃ v', (∀ ih, b ih v = ih v') ∧ I (i + 1) v') (he : ∀ v, I n v → ∃ r, (∀ ih, b ih v = some r) ∧ Post r) : ∀ (fuel k : Nat) (v : V), k ≤ n → n - k < fuel → I k v → ∃ r, loopN b fuel v = some r ∧ Post r
  | 0, k, _, _, h, _ => absurd h (by omega)
  | f + 1, k, v, hk, h, hI => by
    by_cases hkn : k = n
    · subst hkn
      obtain ⟨r, h1, h2⟩ := he v hI
      exact ⟨r, h1 _, h2⟩
    · obtain ⟨v', h1, h2⟩ := hs k v (by omega) hI
      obtain ⟨r, h3, h4⟩ := loop_in I Post n hs he f (k + 1) v' (by omega) (by omega) h2
      exact ⟨r, by show b (loopN b f) v = some r; rw [h1]; exact h3, h4⟩
/-! bits of those below n that have p, and how many -/
def mkb (p : Nat → Bool) : Nat → Nat
  | 0 => 0
  | n + 1 => mkb p n + (if p n then 2 ^ n else 0)
def cnt (p : Nat → Bool) : Nat → Nat
  | 0 => 0
  | n + 1 => cnt p n + (if p n then 1 else 0)
theorem mkb_lt (p : Nat → Bool) : ∀ n, mkb p n < 2 ^ n
  | 0 => by simp [mkb]
  | n + 1 => by
    have := mkb_lt p n
    have e : 2 ^ (n + 1) = 2 ^ n + 2 ^ n := by omega
    simp only [mkb]
    split <;> omega
theorem cnt_le (p : Nat → Bool) : ∀ n, cnt p n ≤ n
  | 0 => Nat.le_refl _
  | n + 1 => by
    have := cnt_le p n
    simp only [cnt]
    split <;> omega
theorem mkb_congr {p q : Nat → Bool} : ∀ n, (∀ i, i < n → p i = q i) → mkb p n = mkb q n
  | 0, _ => rfl
  | n + 1, h => by simp only [mkb]; rw [mkb_congr n (fun i hi => h i (by omega)), h n (by omega)]
theorem cnt_congr {p q : Nat → Bool} : ∀ n, (∀ i, i < n → p i = q i) → cnt p n = cnt q n
  | 0, _ => rfl
  | n + 1, h => by simp only [cnt]; rw [cnt_congr n (fun i hi => h i (by omega)), h n (by omega)]
theorem bit_or : ∀ i, i < 8 → ∀ m, m < 2 ^ i → nI m ||| ((1 : Int32) <<< (nI i &&& 31)) = nI (m + 2 ^ i) := by decide +kernel
theorem bit_or0 : ∀ i, i < 8 → ∀ m, m < 2 ^ i → nI m ||| ((0 : Int32) <<< (nI i &&& 31)) = nI m := by decide +kernel
theorem bit_or0' : ∀ i, i < 8 → (0 : Int32) <<< (nI i &&& 31) = 0 := by decide +kernel
def pc8 (m : Nat) : Nat := m % 2 + m / 2 % 2 + m / 4 % 2 + m / 8 % 2 + m / 16 % 2 + m / 32 % 2 + m / 64 % 2 + m / 128 % 2
theorem pc8_add : ∀ i, i < 8 → ∀ m, m < 2 ^ i → pc8 (m + 2 ^ i) = pc8 m + 1 := by decide +kernel
theorem pc8_mkb (p : Nat → Bool) : ∀ n, n ≤ 8 → pc8 (mkb p n) = cnt p n
  | 0, _ => by simp [mkb, cnt, pc8]
  | n + 1, h => by
    have ih := pc8_mkb p n (by omega)
    simp only [mkb, cnt]
    split
    · rw [pc8_add n (by omega) _ (mkb_lt p n), ih]
    · simpa using ih
theorem mkb_256 (p : Nat → Bool) {n : Nat} (h : n ≤ 8) : mkb p n < 256 := Nat.lt_of_lt_of_le (mkb_lt p n) (by have : 2 ^ n ≤ 2 ^ 8 := Nat.pow_le_pow_right (by decide) h; omega)
theorem bitCount_256 : ∀ m, m < 256 → fJ6_bitCount_0f7a4 (nI m) zeroM = some (nI (pc8 m)) := by decide +kernel
theorem bitCount_ok (σ : Mem) {m : Nat} (h : m < 256) : fJ6_bitCount_0f7a4 (nI m) σ = some (nI (pc8 m)) := (rfl : fJ6_bitCount_0f7a4 (nI m) σ = fJ6_bitCount_0f7a4 (nI m) zeroM).trans (bitCount_256 m h)
theorem bitsOf_256 : ∀ m, m < 256 → fX5_bitsOf (nI m) zeroM = some (nI (pc8 m)) := by decide +kernel
theorem bitsOf_ok (σ : Mem) {m : Nat} (h : m < 256) : fX5_bitsOf (nI m) σ = some (nI (pc8 m)) := (rfl : fX5_bitsOf (nI m) σ = fX5_bitsOf (nI m) zeroM).trans (bitsOf_256 m h)
/-! small tests -/
theorem within_ok (σ : Mem) (a b c : Int32) : fX4_within a b c σ = some (if b ≤ a ∧ a ≤ c then 1 else 0) := by
  unfold fX4_within
  by_cases h1 : a < b
  · rw [if_pos h1, if_neg (fun h => by have := Int32.lt_iff_toInt_lt.mp h1; have := Int32.le_iff_toInt_le.mp h.1; omega)]
  · rw [if_neg h1]
    by_cases h2 : c < a
    · rw [if_pos h2, if_neg (fun h => by have := Int32.lt_iff_toInt_lt.mp h2; have := Int32.le_iff_toInt_le.mp h.2; omega)]
    · rw [if_neg h2, if_pos ⟨Int32.le_iff_toInt_le.mpr (by have h3 : ¬ a.toInt < b.toInt := fun q => h1 (Int32.lt_iff_toInt_lt.mpr q); omega), Int32.le_iff_toInt_le.mpr (by have h3 : ¬ c.toInt < a.toInt := fun q => h2 (Int32.lt_iff_toInt_lt.mpr q); omega)⟩]
