/-! ===== the first force by which one goes otherwise ===== -/
def fo (S : FS) (its : Nat → Int32) (n d c : Nat) : Option Nat := fs (fun i => nI (farS (setF S i) d c) != its i) n
theorem fs_mono {f : Nat → Bool} {k : Nat} : ∀ {i n : Nat}, i ≤ n → fs f i = some k → fs f n = some k
  | i, 0, h, e => by
    have : i = 0 := by omega
    subst this; exact e
  | i, n + 1, h, e => by
    by_cases z : i = n + 1
    · subst z; exact e
    · have := fs_mono (i := i) (n := n) (by omega) e
      simp only [fs]
      rw [this]
theorem fs_lt {f : Nat → Bool} {k : Nat} : ∀ n, fs f n = some k → k < n
  | n + 1, e => by
    simp only [fs] at e
    cases hn : fs f n with
    | some j => rw [hn] at e; cases e; have := fs_lt n hn; omega
    | none =>
      rw [hn] at e
      dsimp only at e
      split at e
      · cases e; omega
      · cases e
theorem fs_succ (f : Nat → Bool) (n : Nat) : fs f (n + 1) = match fs f n with
    | some k => some k
    | none => if f n then some n else none := rfl
theorem fs_no {f : Nat → Bool} : ∀ {n : Nat}, fs f n = none → ∀ i, i < n → f i = false
  | n + 1, h, i, hi => by
    rw [fs_succ] at h
    cases hn : fs f n with
    | some j => rw [hn] at h; cases h
    | none =>
      rw [hn] at h
      dsimp only at h
      by_cases z : i = n
      · subst z
        by_cases q : f i = true
        · rw [if_pos q] at h; cases h
        · simpa using q
      · exact fs_no hn i (by omega)
theorem lv_m1 {o : Option Nat} (ho : ∀ k, o = some k → k < 1000) : lv o = -1 ↔ o = none := by
  cases o with
  | none => exact ⟨fun _ => rfl, fun _ => rfl⟩
  | some k => exact ⟨fun z => absurd z (nI_nem1 (by have := ho k rfl; omega)), fun z => by cases z⟩
/-- the class's look at a sheet, in the thought -/
theorem cfo_ok {σ : Mem} {S : FS} {k n d c f' : Nat} {its : Nat → Int32} (hk : k < 4) (hn : n ≤ 10) (h2 : σ.1 (32 + 2 * k) 2 = nI n) (hi : ∀ i, i < n → σ.1 (33 + 2 * k) i = its i) (h : CR σ 52 (setF S f')) (hd : d < sN S) (hA : sA S d = some c) : ∃ r, fX4_firstOtherwise (32 + 2 * k) (nI d) σ = some r ∧ (r.1 = lv (fo S its n d c) ∧ (∃ f'', CR r.2 52 (setF S f'')) ∧ FR 52 σ r.2) := by
  obtain ⟨s1, s2⟩ := sh_scr k hk
  unfold fX4_firstOtherwise
  refine loop_inx (b := fX4_firstOtherwise_L2 (32 + 2 * k) (nI d)) (fun i v => v.2 = nI i ∧ (∀ j, j < i → (nI (farS (setF S j) d c) != its j) = false) ∧ (∃ f'', CR v.1 52 (setF S f'')) ∧ FR 52 σ v.1) _ n ?_ ?_ 1000 0 (σ, 0) (Nat.zero_le _) (by omega) ⟨rfl, fun j hj => by omega, ⟨f', h⟩, FR.rf⟩
  · rintro i ⟨σi, y⟩ hin ⟨hy, hf, ⟨g, hc⟩, hr⟩
    dsimp only at hy hf hc hr
    subst hy
    have q2 : σi.1 (32 + 2 * k) = σ.1 (32 + 2 * k) := hr.1 _ s1 (fun j hj => by omega)
    have h1 : CR (putI σi 52 5 (nI i)) 52 (setF S i) := hc.setF fl52 (f := i) (by omega)
    obtain ⟨σ2, e, q⟩ := far_ok fl52 h1 hd hA
    have h3 : CR σ2 52 (setF S i) := h1.sq fl52 q
    have r1 : FR 52 σi (putI σi 52 5 (nI i)) := ⟨fun j hj hk => putI_row _ _ _ _ (hk 0 (by omega)), fun j hj => rfl⟩
    have rt : FR 52 σ σ2 := (hr.tr r1).tr (q.fr 52)
    have q3 : σ2.1 (33 + 2 * k) = σ.1 (33 + 2 * k) := rt.1 _ s2 (fun j hj => by omega)
    have body : ∀ ih, fX4_firstOtherwise_L2 (32 + 2 * k) (nI d) ih (σi, nI i) = if nI (farS (setF S i) d c) = its i then ih (σ2, nI (i + 1)) else some (nI i, σ2) := fun ih => by
      unfold fX4_firstOtherwise_L2
      dsimp only
      rw [q2, h2, if_neg (nI_ge hin (by omega)), stp_e, e, bnd_s, gd_of (inB_nI (by omega) (by decide)), rd_nI (by omega), show 32 + 2 * k + 1 = 33 + 2 * k by omega, q3, hi i hin, nI_1]
    by_cases z : nI (farS (setF S i) d c) = its i
    · left
      refine ⟨(σ2, nI (i + 1)), fun ih => by rw [body, if_pos z], rfl, fun j hj => ?_, ⟨i, h3⟩, rt⟩
      by_cases w : j = i
      · subst w; simp [z]
      · exact hf j (by omega)
    · right
      refine ⟨(nI i, σ2), fun ih => by rw [body, if_neg z], ?_, ⟨i, h3⟩, rt⟩
      unfold fo
      rw [fs_some (k := i) (by simp [z]) hf n hin]
      rfl
  · rintro ⟨σi, y⟩ ⟨hy, hf, hc, hr⟩
    dsimp only at hy hf hc hr
    subst hy
    have q2 : σi.1 (32 + 2 * k) = σ.1 (32 + 2 * k) := hr.1 _ s1 (fun j hj => by omega)
    refine ⟨(-1, σi), fun ih => ?_, ?_, hc, hr⟩
    · unfold fX4_firstOtherwise_L2
      dsimp only
      rw [q2, h2, if_pos (nI_le (Nat.le_refl _) (by omega))]
    · unfold fo
      rw [fs_none n hf]
      rfl
theorem mfo_ok {τ : Mem} {S : FS} {k n d c : Nat} {its : Nat → Int32} (hk : k < 4) (hn : n ≤ 10) (h2 : τ.1 15 k = nI n) (hi : ∀ i, i < n → τ.1 16 (40 * k + i) = its i) (h : MR τ S) (hd : d < sN S) (hA : sA S d = some c) : ∃ r, fX5_firstOther (nI k) (nI d) τ = some r ∧ (r.1 = lv (fo S its n d c) ∧ MR r.2 S ∧ PM τ r.2) := by
  have gk : inB (nI k) 4 = true := inB_nI hk (by decide)
  have hF := h.1.2.2.2
  unfold fX5_firstOther
  rw [h.2.2.2.1]
  obtain ⟨p, hp⟩ : ∃ p : Nat → Bool, p = fun i => nI (farS (setF S i) d c) != its i := ⟨_, rfl⟩
  have hfo : fo S its n d c = fs p n := by rw [hp]; rfl
  rw [hfo]
  refine loop_inx (b := fX5_firstOther_L11 (nI k) (nI d)) (fun i v => v.2.2.2 = nI i ∧ v.2.1 = nI (sF S) ∧ v.2.2.1 = lv (fs p i) ∧ (∃ f', MR v.1 (setF S f')) ∧ PM τ v.1) _ n ?_ ?_ 1000 0 (τ, nI (sF S), -1, 0) (Nat.zero_le _) (by omega) ⟨rfl, rfl, rfl, ⟨sF S, h⟩, PM.rf⟩
  · rintro i ⟨τi, x, y, z⟩ hin ⟨hz, hx, hy, ⟨f', hm⟩, hpm⟩
    dsimp only at hz hx hy hm hpm
    subst hz hx
    have q15 : rd τi 15 (nI k) = nI n := by rw [rd_nI (by omega), hpm.1 15 (by decide) (by decide) (by decide) (by decide) (by decide) (by decide) (by decide)]; exact h2
    cases hf : fs p i with
    | some j =>
      right
      rw [hf] at hy
      have hj := fs_lt i hf
      refine ⟨(y, putI τi 0 8 (nI (sF S))), fun ih => ?_, ?_, hm.setF (f := sF S) hF, hpm.fld (by omega)⟩
      · unfold fX5_firstOther_L11
        dsimp only
        rw [gd_of gk, q15, if_neg (nI_ge hin (by omega)), if_neg (by rw [hy]; exact nI_nem1 (by omega)), stp_e]
      · rw [fs_mono (by omega) hf]; exact hy
    | none =>
      left
      rw [hf] at hy
      have h1 : MR (putI τi 0 8 (nI i)) (setF S i) := hm.setF (f := i) (by omega)
      obtain ⟨τ2, e, q⟩ := goesOf_ok h1 hd hA
      have h3 : MR τ2 (setF S i) := h1.sy q (.inl rfl)
      have pt : PM τ τ2 := (hpm.fld (by omega)).tr (q.pm (.inl rfl))
      have q16 : rd τ2 16 (nI (40 * k + i)) = its i := by rw [rd_nI (by omega), pt.1 16 (by decide) (by decide) (by decide) (by decide) (by decide) (by decide) (by decide)]; exact hi i hin
      have body : ∀ ih, fX5_firstOther_L11 (nI k) (nI d) ih (τi, nI (sF S), y, nI i) = if nI (farS (setF S i) d c) = its i then ih (τ2, nI (sF S), -1, nI (i + 1)) else ih (τ2, nI (sF S), nI i, nI (i + 1)) := fun ih => by
        unfold fX5_firstOther_L11
        dsimp only
        rw [gd_of gk, q15, if_neg (nI_ge hin (by omega)), if_pos (show y = -1 from hy), stp_e, e, bnd_s, m40, nI_add, gd_of (inB_nI (by omega) (by decide)), q16, nI_1]
      by_cases w : nI (farS (setF S i) d c) = its i
      · have pi : p i = false := by rw [hp]; simp [w]
        refine ⟨(τ2, nI (sF S), -1, nI (i + 1)), fun ih => by rw [body, if_pos w], rfl, rfl, ?_, ⟨i, h3⟩, pt⟩
        rw [fs_succ, hf, pi]; rfl
      · have pi : p i = true := by rw [hp]; simp [w]
        refine ⟨(τ2, nI (sF S), nI i, nI (i + 1)), fun ih => by rw [body, if_neg w], rfl, rfl, ?_, ⟨i, h3⟩, pt⟩
        rw [fs_succ, hf, pi]; rfl
  · rintro ⟨τi, x, y, z⟩ ⟨hz, hx, hy, ⟨f', hm⟩, hpm⟩
    dsimp only at hz hx hy hm hpm
    subst hz hx
    have q15 : rd τi 15 (nI k) = nI n := by rw [rd_nI (by omega), hpm.1 15 (by decide) (by decide) (by decide) (by decide) (by decide) (by decide) (by decide)]; exact h2
    refine ⟨(y, putI τi 0 8 (nI (sF S))), fun ih => ?_, hy, hm.setF (f := sF S) hF, hpm.fld (by omega)⟩
    unfold fX5_firstOther_L11
    dsimp only
    rw [gd_of gk, q15, if_pos (nI_le (Nat.le_refl _) (by omega)), stp_e]
theorem fo_lt {S : FS} {its : Nat → Int32} {n d c : Nat} (hn : n ≤ 10) : ∀ k, fo S its n d c = some k → k < 1000 := fun k hk => by have := fs_lt n hk; omega
/-! bits, counted up and down -/
theorem bit_or10 : ∀ i, i < 10 → ∀ m, m < 2 ^ i → nI m ||| ((1 : Int32) <<< (nI i &&& 31)) = nI (m + 2 ^ i) := by decide +kernel
theorem bit_down : ∀ i, i < 10 → ∀ m, m < 1024 → m % 2 ^ (i + 1) = 0 → nI m ||| ((1 : Int32) <<< (nI i &&& 31)) = nI (m + 2 ^ i) := by decide +kernel
def mkh (P : Nat → Bool) (hi : Nat) : Nat → Nat
  | 0 => 0
  | j + 1 => mkh P hi j + (if P (hi - 1 - j) then 2 ^ (hi - 1 - j) else 0)
def cnh (P : Nat → Bool) (hi : Nat) : Nat → Nat
  | 0 => 0
  | j + 1 => cnh P hi j + (if P (hi - 1 - j) then 1 else 0)
def lsh (P : Nat → Bool) (hi : Nat) : Nat → Option Nat
  | 0 => none
  | j + 1 => if P (hi - 1 - j) then some (hi - 1 - j) else lsh P hi j
theorem mkh_ok (P : Nat → Bool) (hi : Nat) : ∀ j, j ≤ hi → mkb P (hi - j) + mkh P hi j = mkb P hi
  | 0, _ => by simp [mkh]
  | j + 1, h => by
    have ih := mkh_ok P hi j (by omega)
    have e : hi - j = (hi - (j + 1)) + 1 := by omega
    rw [e] at ih
    simp only [mkb, mkh] at ih ⊢
    rw [show hi - 1 - j = hi - (j + 1) by omega]
    omega
theorem cnh_ok (P : Nat → Bool) (hi : Nat) : ∀ j, j ≤ hi → cnt P (hi - j) + cnh P hi j = cnt P hi
  | 0, _ => by simp [cnh]
  | j + 1, h => by
    have ih := cnh_ok P hi j (by omega)
    have e : hi - j = (hi - (j + 1)) + 1 := by omega
    rw [e] at ih
    simp only [cnt, cnh] at ih ⊢
    rw [show hi - 1 - j = hi - (j + 1) by omega]
    omega
theorem lsh_ok (P : Nat → Bool) (hi : Nat) : ∀ j, j ≤ hi → fs P hi = match fs P (hi - j) with | some k => some k | none => lsh P hi j
  | 0, _ => by
    cases h : fs P hi with
    | none => simp [h, lsh]
    | some k => simp [h]
  | j + 1, h => by
    have ih := lsh_ok P hi j (by omega)
    have e : hi - j = (hi - (j + 1)) + 1 := by omega
    rw [e, fs_succ] at ih
    rw [ih]
    cases hf : fs P (hi - (j + 1)) with
    | some k => rfl
    | none =>
      simp only [lsh]
      rw [show hi - 1 - j = hi - (j + 1) by omega]
      by_cases z : P (hi - (j + 1)) = true
      · rw [if_pos z, if_pos z]
      · rw [if_neg z, if_neg z]
theorem mkh_mod (P : Nat → Bool) (hi : Nat) : ∀ j, j ≤ hi → mkh P hi j % 2 ^ (hi - j) = 0
  | 0, _ => by simp [mkh]
  | j + 1, h => by
    have ih := mkh_mod P hi j (by omega)
    have e : 2 ^ (hi - j) = 2 ^ (hi - (j + 1)) * 2 := by rw [← Nat.pow_succ]; congr 1; omega
    rw [e] at ih
    have h1 : mkh P hi j % 2 ^ (hi - (j + 1)) = 0 := by
      have hd : 2 ^ (hi - (j + 1)) * 2 ∣ mkh P hi j := Nat.dvd_of_mod_eq_zero ih
      exact Nat.mod_eq_zero_of_dvd (Nat.dvd_trans (Nat.dvd_mul_right _ _) hd)
    simp only [mkh]
    rw [show hi - 1 - j = hi - (j + 1) by omega]
    split
    · rw [Nat.add_mod_right]; exact h1
    · exact h1
theorem mkh_lt {P : Nat → Bool} {hi j : Nat} (h : hi ≤ 10) (hj : j ≤ hi) : mkh P hi j < 1024 := by
  have h1 := mkh_ok P hi j hj
  have h2 := mkb_lt P hi
  have h3 : 2 ^ hi ≤ 2 ^ 10 := Nat.pow_le_pow_right (by decide) h
  omega
