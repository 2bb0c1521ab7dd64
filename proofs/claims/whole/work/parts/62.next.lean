/-! ===== the model's next token ===== -/
def TX (τ : Mem) (ρ : Nat) (L : Nat → Nat) (n : Nat) : Prop := ρ < 6 ∧ n ≤ 160 ∧ τ.1 0 20 = nI (160 * ρ) ∧ τ.1 0 21 = nI n ∧ ∀ i, i < n → τ.1 1 (160 * ρ + i) = nI (L i) ∧ L i < 256
def PF (τ τ' : Mem) : Prop := (∀ j, j ≠ 0 → τ'.1 j = τ.1 j) ∧ (∀ k, ¬ (22 ≤ k ∧ k ≤ 28) → τ'.1 0 k = τ.1 0 k) ∧ ∀ j, j ≠ 0 → τ'.2 j = τ.2 j
def NF (τ τ' : Mem) : Prop := (∀ j, j ≠ 0 → τ'.1 j = τ.1 j) ∧ (∀ k, ¬ (22 ≤ k ∧ k ≤ 24) → τ'.1 0 k = τ.1 0 k) ∧ ∀ j, j ≠ 0 → τ'.2 j = τ.2 j
theorem PF.rf {τ : Mem} : PF τ τ := ⟨fun _ _ => rfl, fun _ _ => rfl, fun _ _ => rfl⟩
theorem PF.tr {τ τ' τ'' : Mem} (h : PF τ τ') (h' : PF τ' τ'') : PF τ τ'' := ⟨fun j a => (h'.1 j a).trans (h.1 j a), fun k a => (h'.2.1 k a).trans (h.2.1 k a), fun j a => (h'.2.2 j a).trans (h.2.2 j a)⟩
theorem NF.rf {τ : Mem} : NF τ τ := ⟨fun _ _ => rfl, fun _ _ => rfl, fun _ _ => rfl⟩
theorem NF.tr {τ τ' τ'' : Mem} (h : NF τ τ') (h' : NF τ' τ'') : NF τ τ'' := ⟨fun j a => (h'.1 j a).trans (h.1 j a), fun k a => (h'.2.1 k a).trans (h.2.1 k a), fun j a => (h'.2.2 j a).trans (h.2.2 j a)⟩
theorem NF.pf {τ τ' : Mem} (h : NF τ τ') : PF τ τ' := ⟨h.1, fun k a => h.2.1 k (by omega), h.2.2⟩
theorem nf_put {τ τ' : Mem} (h : NF τ τ') {k : Nat} (hk : 22 ≤ k ∧ k ≤ 24) (v : Int32) : NF τ (putI τ' 0 k v) := ⟨fun j a => by rw [putI_row _ _ _ _ a]; exact h.1 j a, fun i a => by rw [putI_fld _ _ _ _ (by omega)]; exact h.2.1 i a, h.2.2⟩
theorem nf_putL {τ τ' : Mem} (h : NF τ τ') (k : Nat) (v : Int64) : NF τ (putL τ' 0 k v) := ⟨h.1, h.2.1, fun j a => by rw [putL_row _ _ _ _ a]; exact h.2.2 j a⟩
theorem pf_put {τ τ' : Mem} (h : PF τ τ') {k : Nat} (hk : 22 ≤ k ∧ k ≤ 28) (v : Int32) : PF τ (putI τ' 0 k v) := ⟨fun j a => by rw [putI_row _ _ _ _ a]; exact h.1 j a, fun i a => by rw [putI_fld _ _ _ _ (by omega)]; exact h.2.1 i a, h.2.2⟩
theorem TX.pf {τ τ' : Mem} {ρ n : Nat} {L : Nat → Nat} (h : TX τ ρ L n) (q : PF τ τ') : TX τ' ρ L n := ⟨h.1, h.2.1, by rw [q.2.1 20 (by omega)]; exact h.2.2.1, by rw [q.2.1 21 (by omega)]; exact h.2.2.2.1, fun i hi => by rw [q.1 1 (by decide)]; exact h.2.2.2.2 i hi⟩
def byt (L : Nat → Nat) (n i : Nat) : Int32 := if i < n then nI (L i) else -1
theorem byteAt_ok {τ : Mem} {ρ n : Nat} {L : Nat → Nat} (h : TX τ ρ L n) {i : Nat} (hi : i < 400) : fX5_byteAt (nI i) τ = some (byt L n i) := by
  obtain ⟨h1, h2, h3, h4, h5⟩ := h
  unfold fX5_byteAt byt
  rw [h4, h3]
  by_cases q : i < n
  · rw [if_neg (nI_ge q (by omega)), if_pos q, nI_add, gd_of (inB_nI (by omega) (by decide)), rd_nI (by omega), (h5 i q).1]
  · rw [if_pos (nI_le (by omega) (by omega)), if_neg q]
theorem inS_256 : ∀ l, l < 256 → fX5_in (nI l).toInt64 97 122 zeroM = some (if sml l then 1 else 0) ∧ fX5_in (nI l).toInt64 48 57 zeroM = some (if dg l then 1 else 0) := by decide +kernel
theorem inS_m1 : fX5_in (-1 : Int32).toInt64 97 122 zeroM = some 0 ∧ fX5_in (-1 : Int32).toInt64 48 57 zeroM = some 0 := by decide +kernel
def bys (p : Nat → Bool) (L : Nat → Nat) (n i : Nat) : Bool := decide (i < n) && p (L i)
theorem inSm {τ : Mem} {L : Nat → Nat} {n i : Nat} (hl : i < n → L i < 256) : fX5_in (byt L n i).toInt64 97 122 τ = some (if bys sml L n i then 1 else 0) := by
  unfold byt bys
  by_cases q : i < n
  · rw [if_pos q, decide_eq_true q, Bool.true_and]
    exact (rfl : fX5_in (nI (L i)).toInt64 97 122 τ = fX5_in (nI (L i)).toInt64 97 122 zeroM).trans (inS_256 _ (hl q)).1
  · rw [if_neg q, decide_eq_false q, Bool.false_and]
    exact (rfl : fX5_in (-1 : Int32).toInt64 97 122 τ = fX5_in (-1 : Int32).toInt64 97 122 zeroM).trans inS_m1.1
theorem inDg {τ : Mem} {L : Nat → Nat} {n i : Nat} (hl : i < n → L i < 256) : fX5_in (byt L n i).toInt64 48 57 τ = some (if bys dg L n i then 1 else 0) := by
  unfold byt bys
  by_cases q : i < n
  · rw [if_pos q, decide_eq_true q, Bool.true_and]
    exact (rfl : fX5_in (nI (L i)).toInt64 48 57 τ = fX5_in (nI (L i)).toInt64 48 57 zeroM).trans (inS_256 _ (hl q)).2
  · rw [if_neg q, decide_eq_false q, Bool.false_and]
    exact (rfl : fX5_in (-1 : Int32).toInt64 48 57 τ = fX5_in (-1 : Int32).toInt64 48 57 zeroM).trans inS_m1.2
/-- at token k -/
def TA (τ : Mem) (L : Nat → Nat) (n k : Nat) : Prop := τ.1 0 24 = nI (ts L n k) ∧ ts L n k ≤ n ∧
  ((tk L n k = -1 ∧ τ.1 0 23 = 0)
  ∨ (∃ e, ts L n k < e ∧ e ≤ n ∧ (∀ j, ts L n k ≤ j → j < e → sml (L j) = true) ∧ τ.1 0 23 = 1 ∧ τ.1 0 22 = nI e ∧ e = tkp L n (k + 1) ∧ tk L n k = wcode L (ts L n k) e)
  ∨ (∃ v, v < 10000 ∧ tk L n k = nI v ∧ τ.1 0 23 = 2 ∧ τ.2 0 25 = lN v ∧ τ.1 0 22 = nI (tkp L n (k + 1)))
  ∨ (∃ l, l < 256 ∧ tk L n k = sg l ∧ sg l ≠ -2 ∧ τ.1 0 23 = 3 ∧ τ.2 0 25 = lN l ∧ τ.1 0 22 = nI (tkp L n (k + 1)))
  ∨ (tk L n k = -2 ∧ τ.1 0 23 = 4))
section NX
variable {ρ n : Nat} {L : Nat → Nat}
theorem words_loop : ∀ (k i f : Nat) (τ : Mem), i + k = n → k < f → TX τ ρ L n → τ.1 0 22 = nI i → ∃ F, loopN fX5_next_L100 f τ = some F ∧ F.1 0 22 = nI (run sml L k i) ∧ (∀ j, j ≠ 0 → F.1 j = τ.1 j) ∧ (∀ j, j ≠ 22 → F.1 0 j = τ.1 0 j) ∧ F.2 = τ.2 := by
  intro k
  induction k with
  | zero =>
    intro i f τ hi hf h h22
    obtain ⟨t1, t2, t3, t4, t5⟩ := id h
    cases f with
    | zero => omega
    | succ f =>
      refine ⟨τ, ?_, h22, fun _ _ => rfl, fun _ _ => rfl, rfl⟩
      show fX5_next_L100 (loopN _ f) τ = _
      unfold fX5_next_L100
      dsimp only
      rw [h22, byteAt_ok h (by omega), bn1_s, inSm (fun q => (t5 i q).2), bn1_s, if_pos (by unfold bys; rw [decide_eq_false (by omega)]; rfl)]
  | succ k ih =>
    intro i f τ hi hf h h22
    obtain ⟨t1, t2, t3, t4, t5⟩ := id h
    cases f with
    | zero => omega
    | succ f =>
      have step : ∀ K : Mem → Option Mem, fX5_next_L100 K τ = if sml (L i) then K (putI τ 0 22 (nI (i + 1))) else some τ := fun K => by
        have e : bys sml L n i = sml (L i) := by unfold bys; rw [decide_eq_true (by omega), Bool.true_and]
        unfold fX5_next_L100
        dsimp only
        rw [h22, byteAt_ok h (by omega), bn1_s, inSm (fun q => (t5 i q).2), bn1_s, e, stp_e, nI_1]
        by_cases q : sml (L i) = true
        · rw [if_pos q, if_neg (show ¬ (1 : Int32) = 0 by decide), if_pos q]
        · rw [if_neg q, if_pos rfl, if_neg q]
      show ∃ F, fX5_next_L100 (loopN fX5_next_L100 f) τ = some F ∧ F.1 0 22 = nI (if sml (L i) then run sml L k (i + 1) else i) ∧ _
      rw [step]
      by_cases q : sml (L i) = true
      · rw [if_pos q, if_pos q]
        obtain ⟨F, f1, f2, f3, f4, f5⟩ := ih (i + 1) f (putI τ 0 22 (nI (i + 1))) (by omega) (by omega) (h.pf (pf_put PF.rf (by omega) _)) (putI_self ..)
        exact ⟨F, f1, f2, fun j hj => by rw [f3 j hj, putI_row _ _ _ _ hj], fun j hj => by rw [f4 j hj, putI_fld _ _ _ _ hj], f5⟩
      · rw [if_neg q, if_neg q]
        exact ⟨τ, rfl, h22, fun _ _ => rfl, fun _ _ => rfl, rfl⟩
theorem ldig {a l : Nat} (ha : a < 1000000) (hl : 48 ≤ l) (h2 : l < 256) : 10 * lN a + (nI l).toInt64 - 48 = lN (a * 10 + (l - 48)) := by
  rw [nI_l (by omega), show (10 : Int64) * lN a = lN (10 * a) from lN_mul 10 a, lN_add, show lN (10 * a + l) - 48 = lN (10 * a + l - 48) from lN_sub (b := 48) (by omega)]
  congr 1
  omega
theorem digits_loop {s : Nat} : ∀ (k i c f : Nat) (τ : Mem), i + k = n → k < f → i = s + c → (∀ j, s ≤ j → j < i → dg (L j) = true) → TX τ ρ L n → τ.1 0 22 = nI i → (c ≤ 4 → τ.2 0 25 = lN (nvs L s c)) → ∃ F, loopN fX5_next_L160 f (τ, nI c) = some F ∧ F.1 0 22 = nI (run dg L k i) ∧ (run dg L k i - s ≤ 4 → F.2 0 25 = lN (nvs L s (run dg L k i - s))) ∧ F.1 0 23 = (if run dg L k i - s ≤ 4 then 2 else 4) ∧ (∀ j, j ≠ 0 → F.1 j = τ.1 j) ∧ (∀ j, j ≠ 22 → j ≠ 23 → F.1 0 j = τ.1 0 j) ∧ ∀ j, j ≠ 0 → F.2 j = τ.2 j := by
  have stop : ∀ (τ : Mem) (c i : Nat), i = s + c → i ≤ 400 → TX τ ρ L n → τ.1 0 22 = nI i → (c ≤ 4 → τ.2 0 25 = lN (nvs L s c)) → ∃ F, fX5_next_b235 τ (nI c) = some F ∧ F.1 0 22 = nI i ∧ (i - s ≤ 4 → F.2 0 25 = lN (nvs L s (i - s))) ∧ F.1 0 23 = (if i - s ≤ 4 then 2 else 4) ∧ (∀ j, j ≠ 0 → F.1 j = τ.1 j) ∧ (∀ j, j ≠ 22 → j ≠ 23 → F.1 0 j = τ.1 0 j) ∧ ∀ j, j ≠ 0 → F.2 j = τ.2 j := fun τ c i hi h400 h h22 h25 => by
    have e : i - s = c := by omega
    rw [e]
    unfold fX5_next_b235
    rw [if_le_lit (L := 4) (k := 4) rfl (by omega) (by decide)]
    by_cases q : c ≤ 4
    · rw [if_pos q, stp_e]
      refine ⟨_, rfl, by rw [putI_fld _ _ _ _ (by decide)]; exact h22, fun _ => h25 q, by rw [putI_self, if_pos q], fun j hj => putI_row _ _ _ _ hj, fun j a b => putI_fld _ _ _ _ b, fun _ _ => rfl⟩
    · rw [if_neg q, stp_e]
      refine ⟨_, rfl, by rw [putI_fld _ _ _ _ (by decide)]; exact h22, fun z => absurd z q, by rw [putI_self, if_neg q], fun j hj => putI_row _ _ _ _ hj, fun j a b => putI_fld _ _ _ _ b, fun _ _ => rfl⟩
  intro k
  induction k with
  | zero =>
    intro i c f τ hi hf hc hd h h22 h25
    obtain ⟨t1, t2, t3, t4, t5⟩ := id h
    cases f with
    | zero => omega
    | succ f =>
      obtain ⟨F, f1, f2⟩ := stop τ c i hc (by omega) h h22 h25
      refine ⟨F, ?_, f2⟩
      rw [← f1]
      show fX5_next_L160 (loopN _ f) (τ, nI c) = _
      unfold fX5_next_L160
      dsimp only
      rw [h22, byteAt_ok h (by omega), bn1_s, inDg (fun q => (t5 i q).2), bn1_s, if_pos (by unfold bys; rw [decide_eq_false (by omega)]; rfl)]
  | succ k ih =>
    intro i c f τ hi hf hc hd h h22 h25
    obtain ⟨t1, t2, t3, t4, t5⟩ := id h
    cases f with
    | zero => omega
    | succ f =>
      have hi5 := t5 i (by omega)
      have step : ∀ K : Mem × Int32 → Option Mem, fX5_next_L160 K (τ, nI c) = if dg (L i) then (if 4 ≤ nI c then K (putI (putL τ 0 25 (τ.2 0 25)) 0 22 (nI (i + 1)), nI (c + 1)) else K (putI (putL τ 0 25 (((10 * (τ.2 0 25)) + (nI (L i)).toInt64) - 48)) 0 22 (nI (i + 1)), nI (c + 1))) else fX5_next_b235 τ (nI c) := fun K => by
        have e : bys dg L n i = dg (L i) := by unfold bys; rw [decide_eq_true (by omega), Bool.true_and]
        have e2 : byt L n i = nI (L i) := by unfold byt; rw [if_pos (by omega)]
        unfold fX5_next_L160
        dsimp only
        rw [h22, byteAt_ok h (by omega), bn1_s, inDg (fun q => (t5 i q).2), bn1_s, e, bn1_s, e2]
        simp only [stp_e, putL_1, h22, nI_1]
        by_cases q : dg (L i) = true
        · rw [if_pos q, if_neg (show ¬ (1 : Int32) = 0 by decide), if_pos q]
        · rw [if_neg q, if_pos rfl, if_neg q]
      show ∃ F, fX5_next_L160 (loopN fX5_next_L160 f) (τ, nI c) = some F ∧ F.1 0 22 = nI (if dg (L i) then run dg L k (i + 1) else i) ∧ ((if dg (L i) then run dg L k (i + 1) else i) - s ≤ 4 → F.2 0 25 = lN (nvs L s ((if dg (L i) then run dg L k (i + 1) else i) - s))) ∧ F.1 0 23 = (if (if dg (L i) then run dg L k (i + 1) else i) - s ≤ 4 then 2 else 4) ∧ _
      rw [step]
      by_cases q : dg (L i) = true
      · simp only [if_pos q]
        have hd2 : ∀ j, s ≤ j → j < i + 1 → dg (L j) = true := fun j h1 h2 => by
          by_cases z : j = i
          · subst z; exact q
          · exact hd j h1 (by omega)
        have fin : ∀ τ1 : Mem, (∀ j, j ≠ 0 → τ1.1 j = τ.1 j) → (∀ j, j ≠ 22 → τ1.1 0 j = τ.1 0 j) → (∀ j, j ≠ 0 → τ1.2 j = τ.2 j) → τ1.1 0 22 = nI (i + 1) → (c + 1 ≤ 4 → τ1.2 0 25 = lN (nvs L s (c + 1))) → ∃ F, loopN fX5_next_L160 f (τ1, nI (c + 1)) = some F ∧ F.1 0 22 = nI (run dg L k (i + 1)) ∧ (run dg L k (i + 1) - s ≤ 4 → F.2 0 25 = lN (nvs L s (run dg L k (i + 1) - s))) ∧ F.1 0 23 = (if run dg L k (i + 1) - s ≤ 4 then 2 else 4) ∧ (∀ j, j ≠ 0 → F.1 j = τ.1 j) ∧ (∀ j, j ≠ 22 → j ≠ 23 → F.1 0 j = τ.1 0 j) ∧ ∀ j, j ≠ 0 → F.2 j = τ.2 j := fun τ1 a1 a2 a3 a4 a5 => by
          obtain ⟨F, f1, f2, f3, f4, f5, f6, f7⟩ := ih (i + 1) (c + 1) f τ1 (by omega) (by omega) (by omega) hd2 ⟨t1, t2, by rw [a2 20 (by decide)]; exact t3, by rw [a2 21 (by decide)]; exact t4, fun j hj => by rw [a1 1 (by decide)]; exact t5 j hj⟩ a4 a5
          exact ⟨F, f1, f2, f3, f4, fun j hj => (f5 j hj).trans (a1 j hj), fun j x y => (f6 j x y).trans (a2 j x), fun j hj => (f7 j hj).trans (a3 j hj)⟩
        have hl := dg_rng q
        by_cases c4 : (4 : Int32) ≤ nI c
        · rw [if_pos c4]
          have c4' : 4 ≤ c := by
            rcases Nat.lt_or_ge c 4 with z | z
            · exact absurd c4 (nI_ge (b := 4) z (by omega))
            · exact z
          exact fin _ (fun j hj => by rw [putI_row _ _ _ _ hj, putL_1]) (fun j hj => by rw [putI_fld _ _ _ _ hj, putL_1]) (fun j hj => by rw [putI_2, putL_row _ _ _ _ hj]) (putI_self ..) (fun z => by omega)
        · rw [if_neg c4]
          have c4' : c < 4 := by
            rcases Nat.lt_or_ge c 4 with z | z
            · exact z
            · exact absurd (nI_le (a := 4) z (by omega)) c4
          have hv : nvs L s c < 10 ^ c := nvs_lt c (fun j hj => hd (s + j) (by omega) (by omega))
          have : 10 ^ c ≤ 10 ^ 4 := Nat.pow_le_pow_right (by decide) (by omega)
          refine fin _ (fun j hj => by rw [putI_row _ _ _ _ hj, putL_1]) (fun j hj => by rw [putI_fld _ _ _ _ hj, putL_1]) (fun j hj => by rw [putI_2, putL_row _ _ _ _ hj]) (putI_self ..) (fun z => ?_)
          rw [putI_2, putL_at, if_pos ⟨rfl, rfl⟩, h25 (by omega), ldig (by omega) hl.1 hi5.2]
          simp only [nvs]
          rw [hc]
      · simp only [if_neg q]
        exact stop τ c i hc (by omega) h h22 h25
theorem sg_in : ∀ l, l < 256 → sg l ≠ -2 → (l = 40 ∨ l = 41 ∨ l = 59 ∨ l = 43 ∨ l = 45 ∨ l = 42 ∨ l = 60 ∨ l = 61) := by decide +kernel
theorem b39_ok {τ : Mem} {i s : Nat} (h : TX τ ρ L n) (hs : s = ruN blk L n i) (hi : i ≤ n) (h22 : τ.1 0 22 = nI s) {k : Nat} (hk : tkp L n k = i) : ∃ F, fX5_next_b39 τ = some F ∧ TA F L n k ∧ NF τ F := by
  obtain ⟨t1, t2, t3, t4, t5⟩ := id h
  have hsn : s ≤ n := by rw [hs]; exact ruN_le hi
  have h1 : TX (putI τ 0 24 (nI s)) ρ L n := h.pf (pf_put PF.rf (by omega) _)
  have e22 : (putI τ 0 24 (nI s)).1 0 22 = nI s := by rw [putI_fld _ _ _ _ (by decide)]; exact h22
  unfold fX5_next_b39
  rw [h22, stp_e, e22, byteAt_ok h1 (by omega), bn1_s, stp_e]
  obtain ⟨τ6, h6⟩ : ∃ τ6, τ6 = putI (putI τ 0 24 (nI s)) 0 23 4 := ⟨_, rfl⟩
  rw [← h6]
  have n6 : NF τ τ6 := by rw [h6]; exact nf_put (nf_put NF.rf (by omega) _) (by omega) _
  have x6 : TX τ6 ρ L n := h.pf n6.pf
  have f24 : τ6.1 0 24 = nI s := by rw [h6, putI_fld _ _ _ _ (by decide), putI_self]
  have f23 : τ6.1 0 23 = 4 := by rw [h6, putI_self]
  have f22 : τ6.1 0 22 = nI s := by rw [h6, putI_fld _ _ _ _ (by decide)]; exact e22
  have etok : tok L n i = tok L n i := rfl
  by_cases q : s < n
  · have eb : byt L n s = nI (L s) := by unfold byt; rw [if_pos q]
    obtain ⟨hl1, hl2⟩ := t5 s q
    have ets : ts L n k = s := by
      unfold ts tok
      rw [hk]
      dsimp only
      rw [← hs, if_pos q]
      split
      · rfl
      · split <;> rfl
    have bs : bys sml L n s = sml (L s) := by unfold bys; rw [decide_eq_true q, Bool.true_and]
    have bd : bys dg L n s = dg (L s) := by unfold bys; rw [decide_eq_true q, Bool.true_and]
    rw [if_pos (by rw [eb]; exact nI_pos' (by omega)), inSm (fun z => (t5 s z).2), bn1_s, bs, inDg (fun z => (t5 s z).2), bn1_s, bd, eb]
    by_cases q1 : sml (L s) = true
    · rw [if_pos q1, if_neg (show ¬ (1 : Int32) = 0 by decide), stp_e]
      obtain ⟨F, g1, g2, g3, g4, g5⟩ := words_loop (n - s) s 1000 (putI τ6 0 23 1) (by omega) (by omega) (x6.pf (pf_put PF.rf (by omega) _)) (by rw [putI_fld _ _ _ _ (by decide)]; exact f22)
      have er : run sml L (n - s) s = ruN sml L n (s + 1) := by
        show ruN sml L n s = _
        exact ruN_go q q1
      rw [er] at g2
      have a1 := ruN_ge sml L n (s + 1)
      have a2 := ruN_le (p := sml) (L := L) (n := n) (i := s + 1) (by omega)
      have etk : tok L n i = (wcode L s (ruN sml L n (s + 1)), s, ruN sml L n (s + 1)) := by
        unfold tok
        dsimp only
        rw [← hs, if_pos q, if_pos q1]
      refine ⟨F, g1, ⟨?_, by rw [ets]; exact hsn, Or.inr (Or.inl ⟨ruN sml L n (s + 1), ?_, a2, fun j h1 h2 => ?_, ?_, g2, ?_, ?_⟩)⟩, ⟨fun j hj => by rw [g3 j hj, putI_row _ _ _ _ hj]; exact n6.1 j hj, fun j hj => by rw [g4 j (by omega), putI_fld _ _ _ _ (by omega)]; exact n6.2.1 j hj, fun j hj => by rw [g5]; exact n6.2.2 j hj⟩⟩
      · rw [g4 24 (by decide), putI_fld _ _ _ _ (by decide), f24, ets]
      · rw [ets]; omega
      · rw [ets] at h1
        by_cases z : j = s
        · subst z; exact q1
        · exact ruN_in (p := sml) (L := L) (n := n) (i := s + 1) (by omega) h2
      · rw [g4 23 (by decide), putI_self]
      · show _ = (tok L n (tkp L n k)).2.2
        rw [hk, etk]
      · rw [ets]; unfold tk; rw [hk, etk]
    · rw [if_neg q1, if_pos rfl]
      by_cases q2 : dg (L s) = true
      · rw [if_pos q2, if_neg (show ¬ (1 : Int32) = 0 by decide), stp_e, stp_e]
        obtain ⟨F, g1, g2, g3, g4, g5, g6, g7⟩ := digits_loop (s := s) (n - s) s 0 1000 (putL (putI τ6 0 23 2) 0 25 0) (by omega) (by omega) (by omega) (fun j h1 h2 => by omega) (x6.pf ⟨fun j hj => by rw [putL_1, putI_row _ _ _ _ hj], fun j hj => by rw [putL_1, putI_fld _ _ _ _ (by omega)], fun j hj => putL_row _ _ _ _ hj⟩) (by rw [putL_1, putI_fld _ _ _ _ (by decide)]; exact f22) (fun _ => by rw [putL_at, if_pos ⟨rfl, rfl⟩]; rfl)
        have er : run dg L (n - s) s = ruN dg L n (s + 1) := by
          show ruN dg L n s = _
          exact ruN_go q q2
        rw [er] at g2 g3 g4
        have a1 := ruN_ge dg L n (s + 1)
        have a2 := ruN_le (p := dg) (L := L) (n := n) (i := s + 1) (by omega)
        have etk : tok L n i = (if ruN dg L n (s + 1) - s ≤ 4 then nI (nvs L s (ruN dg L n (s + 1) - s)) else -2, s, ruN dg L n (s + 1)) := by
          unfold tok
          dsimp only
          rw [← hs, if_pos q, if_neg q1, if_pos q2]
        have e24 : F.1 0 24 = nI (ts L n k) := by rw [g6 24 (by decide) (by decide), putL_1, putI_fld _ _ _ _ (by decide), f24, ets]
        have nf : NF τ F := ⟨fun j hj => by rw [g5 j hj, putL_1, putI_row _ _ _ _ hj]; exact n6.1 j hj, fun j hj => by rw [g6 j (by omega) (by omega), putL_1, putI_fld _ _ _ _ (by omega)]; exact n6.2.1 j hj, fun j hj => by rw [g7 j hj, putL_row _ _ _ _ hj]; exact n6.2.2 j hj⟩
        have e22' : nI (ruN dg L n (s + 1)) = nI (tkp L n (k + 1)) := by
          show _ = nI (tok L n (tkp L n k)).2.2
          rw [hk, etk]
        by_cases q4 : ruN dg L n (s + 1) - s ≤ 4
        · have hv : nvs L s (ruN dg L n (s + 1) - s) < 10 ^ (ruN dg L n (s + 1) - s) := nvs_lt _ (fun j hj => by
            by_cases z : j = 0
            · subst z; exact q2
            · exact ruN_in (p := dg) (L := L) (n := n) (i := s + 1) (by omega) (by omega))
          have : 10 ^ (ruN dg L n (s + 1) - s) ≤ 10 ^ 4 := Nat.pow_le_pow_right (by decide) q4
          rw [if_pos q4] at g4 etk
          refine ⟨F, g1, ⟨e24, by rw [ets]; exact hsn, Or.inr (Or.inr (Or.inl ⟨nvs L s (ruN dg L n (s + 1) - s), by omega, ?_, g4, g3 q4, by rw [g2, e22']⟩))⟩, nf⟩
          unfold tk
          rw [hk, etk]
        · rw [if_neg q4] at g4 etk
          refine ⟨F, g1, ⟨e24, by rw [ets]; exact hsn, Or.inr (Or.inr (Or.inr (Or.inr ⟨?_, g4⟩)))⟩, nf⟩
          unfold tk
          rw [hk, etk]
      · rw [if_neg q2, if_pos rfl]
        have etk : tok L n i = (sg (L s), s, s + 1) := by
          unfold tok
          dsimp only
          rw [← hs, if_pos q, if_neg q1, if_neg q2]
        have etk' : tk L n k = sg (L s) := by unfold tk; rw [hk, etk]
        have ek : tkp L n (k + 1) = s + 1 := by show (tok L n (tkp L n k)).2.2 = _; rw [hk, etk]
        have sgn : ∀ l, L s = l → sg l ≠ -2 → l < 256 → ∃ F, (stp (putI τ6 0 23 3) fun σw9 => stp (putL σw9 0 25 (nI (L s)).toInt64) fun σw10 => stp (putI σw10 0 22 ((σw10.1 0 22) + 1)) fun σw11 => some σw11) = some F ∧ TA F L n k ∧ NF τ F := fun l hl hsg hlt => by
          have e22 : (putL (putI τ6 0 23 3) 0 25 (nI (L s)).toInt64).1 0 22 = nI s := by rw [putL_1, putI_fld _ _ _ _ (by decide)]; exact f22
          rw [stp_e, stp_e, stp_e, e22, nI_1]
          refine ⟨_, rfl, ⟨?_, by rw [ets]; exact hsn, Or.inr (Or.inr (Or.inr (Or.inl ⟨L s, hl2, etk', by rw [hl]; exact hsg, ?_, ?_, ?_⟩)))⟩, nf_put (nf_putL (nf_put n6 (by omega) _) _ _) (by omega) _⟩
          · rw [putI_fld _ _ _ _ (by decide), putL_1, putI_fld _ _ _ _ (by decide), f24, ets]
          · rw [putI_fld _ _ _ _ (by decide), putL_1, putI_self]
          · rw [putI_2, putL_at, if_pos ⟨rfl, rfl⟩, nI_l (by omega)]
          · rw [putI_self, ek]
        have lit : ∀ c, c < 256 → (nI (L s) = nI c ↔ L s = c) := fun c hc => ⟨fun z => nI_inj (by omega) (by omega) z, fun z => by rw [z]⟩
        by_cases c1 : L s = 40
        · rw [if_pos (show nI (L s) = 40 from (lit 40 (by decide)).mpr c1)]; exact sgn 40 c1 (by decide) (by decide)
        · rw [if_neg (show ¬ nI (L s) = 40 from fun z => c1 ((lit 40 (by decide)).mp z))]
          by_cases c2 : L s = 41
          · rw [if_pos (show nI (L s) = 41 from (lit 41 (by decide)).mpr c2)]; exact sgn 41 c2 (by decide) (by decide)
          · rw [if_neg (show ¬ nI (L s) = 41 from fun z => c2 ((lit 41 (by decide)).mp z))]
            by_cases c3 : L s = 59
            · rw [if_pos (show nI (L s) = 59 from (lit 59 (by decide)).mpr c3)]; exact sgn 59 c3 (by decide) (by decide)
            · rw [if_neg (show ¬ nI (L s) = 59 from fun z => c3 ((lit 59 (by decide)).mp z))]
              by_cases c4 : L s = 43
              · rw [if_pos (show nI (L s) = 43 from (lit 43 (by decide)).mpr c4)]; exact sgn 43 c4 (by decide) (by decide)
              · rw [if_neg (show ¬ nI (L s) = 43 from fun z => c4 ((lit 43 (by decide)).mp z))]
                by_cases c5 : L s = 45
                · rw [if_pos (show nI (L s) = 45 from (lit 45 (by decide)).mpr c5)]; exact sgn 45 c5 (by decide) (by decide)
                · rw [if_neg (show ¬ nI (L s) = 45 from fun z => c5 ((lit 45 (by decide)).mp z))]
                  by_cases c6 : L s = 42
                  · rw [if_pos (show nI (L s) = 42 from (lit 42 (by decide)).mpr c6)]; exact sgn 42 c6 (by decide) (by decide)
                  · rw [if_neg (show ¬ nI (L s) = 42 from fun z => c6 ((lit 42 (by decide)).mp z))]
                    by_cases c7 : L s = 60
                    · rw [if_pos (show nI (L s) = 60 from (lit 60 (by decide)).mpr c7)]; exact sgn 60 c7 (by decide) (by decide)
                    · rw [if_neg (show ¬ nI (L s) = 60 from fun z => c7 ((lit 60 (by decide)).mp z))]
                      by_cases c8 : L s = 61
                      · rw [if_pos (show nI (L s) = 61 from (lit 61 (by decide)).mpr c8)]; exact sgn 61 c8 (by decide) (by decide)
                      · rw [if_neg (show ¬ nI (L s) = 61 from fun z => c8 ((lit 61 (by decide)).mp z))]
                        have hsg : sg (L s) = -2 := by
                          by_cases z : sg (L s) = -2
                          · exact z
                          · rcases sg_in _ hl2 z with w | w | w | w | w | w | w | w
                            · exact absurd w c1
                            · exact absurd w c2
                            · exact absurd w c3
                            · exact absurd w c4
                            · exact absurd w c5
                            · exact absurd w c6
                            · exact absurd w c7
                            · exact absurd w c8
                        exact ⟨τ6, rfl, ⟨by rw [f24, ets], by rw [ets]; exact hsn, Or.inr (Or.inr (Or.inr (Or.inr ⟨by rw [etk', hsg], f23⟩)))⟩, n6⟩
  · have eb : byt L n s = -1 := by unfold byt; rw [if_neg q]
    have etk : tok L n i = (-1, n, n) := by
      unfold tok
      dsimp only
      rw [← hs, if_neg q]
    have ets : ts L n k = n := by unfold ts; rw [hk, etk]
    rw [eb, if_neg (by decide), stp_e, putI_fld τ6 0 23 0 (show 21 ≠ 23 by decide), x6.2.2.2.1, stp_e]
    refine ⟨_, rfl, ⟨by rw [putI_self, ets], by rw [ets]; exact Nat.le_refl _, Or.inl ⟨by unfold tk; rw [hk, etk], by rw [putI_fld _ _ _ _ (by decide), putI_self]⟩⟩, nf_put (nf_put n6 (by omega) _) (by omega) _⟩
theorem next_ok {τ : Mem} (h : TX τ ρ L n) {k : Nat} (h22 : τ.1 0 22 = nI (tkp L n k)) : ∃ F, fX5_next τ = some F ∧ TA F L n k ∧ NF τ F := by
  have key : ∀ (m i f : Nat) (τ1 : Mem), n - i ≤ m → m < f → i ≤ n → TX τ1 ρ L n → τ1.1 0 22 = nI i → ruN blk L n i = ruN blk L n (tkp L n k) → NF τ τ1 → ∃ F, loopN fX5_next_L0 f τ1 = some F ∧ TA F L n k ∧ NF τ F := by
    intro m
    induction m with
    | zero =>
      intro i f τ1 hm hf hi h1 h2 hr nf
      cases f with
      | zero => omega
      | succ f =>
        have e : i = n := by omega
        subst e
        have er : ruN blk L i i = i := ruN_no (fun q => absurd q (by omega))
        obtain ⟨F, f1, f2, f3⟩ := b39_ok (i := tkp L i k) (s := i) h1 (by rw [← hr, er]) (tkp_le L i k) h2 rfl
        refine ⟨F, ?_, f2, nf.tr f3⟩
        rw [← f1]
        have hn := h1.2.1
        show fX5_next_L0 (loopN _ f) τ1 = _
        unfold fX5_next_L0
        dsimp only
        rw [h2, byteAt_ok h1 (by omega), bn1_s, bn1_s, show byt L i i = -1 by unfold byt; rw [if_neg (by omega)], if_neg (by decide), if_neg (by decide)]
    | succ m ih =>
      intro i f τ1 hm hf hi h1 h2 hr nf
      by_cases hin : i = n
      · exact ih i f τ1 (by omega) (by omega) hi h1 h2 hr nf
      · have hin : i < n := by omega
        have hn := h1.2.1
        have hl := h1.2.2.2.2 i hin
        cases f with
        | zero => omega
        | succ f =>
          have step : ∀ K : Mem → Option Mem, fX5_next_L0 K τ1 = if blk (L i) then K (putI τ1 0 22 (nI (i + 1))) else fX5_next_b39 τ1 := fun K => by
            unfold fX5_next_L0
            dsimp only
            rw [h2, byteAt_ok h1 (by omega), bn1_s, bn1_s, show byt L n i = nI (L i) by unfold byt; rw [if_pos hin], stp_e, nI_1]
            unfold blk
            by_cases a : L i = 32
            · rw [if_pos (show nI (L i) = 32 by rw [a]; rfl), if_pos (by rw [a]; rfl)]
            · rw [if_neg (show ¬ nI (L i) = 32 from fun z => a (nI_inj (b := 32) (by omega) (by omega) z))]
              by_cases b : L i = 10
              · rw [if_pos (show nI (L i) = 10 by rw [b]; rfl), if_pos (by rw [b]; rfl)]
              · rw [if_neg (show ¬ nI (L i) = 10 from fun z => b (nI_inj (b := 10) (by omega) (by omega) z)), if_neg (by rw [beq_eq_false_iff_ne.mpr a, beq_eq_false_iff_ne.mpr b]; decide)]
          show ∃ F, fX5_next_L0 (loopN fX5_next_L0 f) τ1 = some F ∧ _
          rw [step]
          by_cases q : blk (L i) = true
          · rw [if_pos q]
            exact ih (i + 1) f (putI τ1 0 22 (nI (i + 1))) (by omega) (by omega) (by omega) (h1.pf (pf_put PF.rf (by omega) _)) (putI_self ..) (by rw [← hr]; exact (ruN_go hin q).symm) (nf_put nf (by omega) _)
          · rw [if_neg q]
            have er : ruN blk L n i = i := ruN_no (fun _ => by simpa using q)
            obtain ⟨F, f1, f2, f3⟩ := b39_ok (i := tkp L n k) (s := i) h1 (by rw [← hr, er]) (tkp_le L n k) h2 rfl
            exact ⟨F, f1, f2, nf.tr f3⟩
  exact key (n - tkp L n k) (tkp L n k) 1000 τ (Nat.le_refl _) (by have := h.2.1; omega) (tkp_le L n k) h h22 rfl NF.rf
end NX
