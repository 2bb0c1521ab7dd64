/-! ===== copy, heap ===== -/
theorem holds_ok (σ : Mem) {b n : Nat} (hn : n ≤ 40) (h2 : σ.1 b 2 = nI n) (i m : Int32) : fX2_holds b i m σ = some (if 0 ≤ i.toInt ∧ 0 ≤ m.toInt ∧ m.toInt ≤ n ∧ i.toInt ≤ (n : Int) - m.toInt then 1 else 0) := by
  have z0 : (0 : Int32).toInt = 0 := rfl
  have t0 : ∀ a : Int32, a < 0 ↔ a.toInt < 0 := fun a => by rw [Int32.lt_iff_toInt_lt, z0]
  unfold fX2_holds
  rw [h2]
  by_cases q1 : i < 0
  · rw [if_pos q1, if_neg (fun z => by have := (t0 i).mp q1; omega)]
  · rw [if_neg q1]
    have q1' : ¬ i.toInt < 0 := fun z => q1 ((t0 i).mpr z)
    by_cases q2 : m < 0
    · rw [if_pos q2, if_neg (fun z => by have := (t0 m).mp q2; omega)]
    · rw [if_neg q2]
      have q2' : ¬ m.toInt < 0 := fun z => q2 ((t0 m).mpr z)
      have e3 : nI n < m ↔ (n : Int) < m.toInt := by rw [Int32.lt_iff_toInt_lt, nI_toInt (by omega)]
      by_cases q3 : nI n < m
      · rw [if_pos q3, if_neg (fun z => by have := e3.mp q3; omega)]
      · rw [if_neg q3]
        have q3' : ¬ (n : Int) < m.toInt := fun z => q3 (e3.mpr z)
        obtain ⟨j, hj, _, rfl⟩ := of_rng (a := m) (q := (n : Int)) (by omega)
        rw [nI_toInt (by omega)] at q2' q3' ⊢
        rw [pk_sub (show j ≤ n by omega)]
        have e4 : nI (n - j) < i ↔ ((n - j : Nat) : Int) < i.toInt := by rw [Int32.lt_iff_toInt_lt, nI_toInt (by omega)]
        by_cases q4 : nI (n - j) < i
        · rw [if_pos q4, if_neg (fun z => by have := e4.mp q4; omega)]
        · rw [if_neg q4, if_pos ⟨by omega, by omega, by omega, by
            have : ¬ ((n - j : Nat) : Int) < i.toInt := fun z => q4 (e4.mpr z)
            omega⟩]
/-- the model's copying, cell by cell, from A on to B on, n of them -/
theorem mcopy_loop {τ : Mem} {k l i j n : Nat} (hk : k < 4) (hl : l < 4) (hi : i + n ≤ 40) (hj : j + n ≤ 40) (up : Bool) (ha : ∀ t, t < n → if up then ¬ (40 * l + j + n - t ≤ 40 * k + i + (n - 1 - t) ∧ 40 * k + i + (n - 1 - t) < 40 * l + j + n) else ¬ (40 * l + j ≤ 40 * k + i + t ∧ 40 * k + i + t < 40 * l + j + t)) : ∃ r, loopN (fX5_copy_L121 (nI k) (nI i) (nI l) (nI j) (nI n)) 1000 (τ, if up then 1 else 0, 0) = some r ∧ (r.1 = nI n ∧ (∀ x, x ≠ 16 → r.2.1 x = τ.1 x) ∧ ∀ x, r.2.1 16 x = if 40 * l + j ≤ x ∧ x < 40 * l + j + n then τ.1 16 (40 * k + i + (x - (40 * l + j))) else τ.1 16 x) := by
  refine loop_in (b := fX5_copy_L121 (nI k) (nI i) (nI l) (nI j) (nI n)) (fun t v => v.2.2 = nI t ∧ v.2.1 = (if up then 1 else 0) ∧ (∀ x, x ≠ 16 → v.1.1 x = τ.1 x) ∧ ∀ x, v.1.1 16 x = if (if up then 40 * l + j + n - t ≤ x ∧ x < 40 * l + j + n else 40 * l + j ≤ x ∧ x < 40 * l + j + t) then τ.1 16 (40 * k + i + (x - (40 * l + j))) else τ.1 16 x) _ n ?_ ?_ 1000 0 (τ, if up then 1 else 0, 0) (Nat.zero_le _) (by omega) ⟨rfl, rfl, fun _ _ => rfl, fun x => ?_⟩
  · rintro t ⟨τi, y, z⟩ ht ⟨hz, hy, hr, hd⟩
    dsimp only at hz hy hr hd
    subst hz hy
    have a := ha t ht
    have body : ∀ p, p < n → (if up then (if (40 * l + j + n - t ≤ 40 * k + i + p ∧ 40 * k + i + p < 40 * l + j + n) then False else True) else (if (40 * l + j ≤ 40 * k + i + p ∧ 40 * k + i + p < 40 * l + j + t) then False else True)) → ∀ ih, fX5_copy_b145 (nI k) (nI i) (nI l) (nI j) (nI n) ih τi (if up then 1 else 0) (nI t) (nI p) = ih (putI τi 16 (40 * l + j + p) (τ.1 16 (40 * k + i + p)), if up then 1 else 0, nI (t + 1)) := fun p hp hne ih => by
      unfold fX5_copy_b145
      rw [m40, m40, nI_add, nI_add, nI_add, nI_add, gd_of (inB_nI (by omega) (by omega)), gd_of (inB_nI (by omega) (by omega)), stp_e, rd_nI (by omega), wr_nI (by omega), nI_1, hd]
      cases up with
      | true =>
        simp only [if_true] at hne ⊢
        rw [if_neg (fun z => by rw [if_pos z] at hne; exact hne)]
      | false =>
        simp only [Bool.false_eq_true, if_false] at hne ⊢
        rw [if_neg (fun z => by rw [if_pos z] at hne; exact hne)]
    cases up with
    | false =>
      simp only [Bool.false_eq_true, if_false] at a hd body ⊢
      refine ⟨(putI τi 16 (40 * l + j + t) (τ.1 16 (40 * k + i + t)), 0, nI (t + 1)), fun ih => ?_, rfl, rfl, fun x hx => by rw [putI_row _ _ _ _ hx]; exact hr x hx, fun x => ?_⟩
      · unfold fX5_copy_L121
        dsimp only
        rw [if_neg (nI_ge ht (by omega)), if_pos rfl, body t ht (by rw [if_neg a]; trivial)]
      · rw [putI_at]
        by_cases z : x = 40 * l + j + t
        · rw [if_pos ⟨rfl, z⟩, if_pos (by omega), show x - (40 * l + j) = t by omega]
        · rw [if_neg (fun w => z w.2), hd]
          by_cases w : 40 * l + j ≤ x ∧ x < 40 * l + j + t
          · rw [if_pos w, if_pos (by omega)]
          · rw [if_neg w, if_neg (by omega)]
    | true =>
      simp only [if_true] at a hd body ⊢
      refine ⟨(putI τi 16 (40 * l + j + (n - 1 - t)) (τ.1 16 (40 * k + i + (n - 1 - t))), 1, nI (t + 1)), fun ih => ?_, rfl, rfl, fun x hx => by rw [putI_row _ _ _ _ hx]; exact hr x hx, fun x => ?_⟩
      · unfold fX5_copy_L121
        dsimp only
        have en : nI n - 1 - nI t = nI (n - 1 - t) := by
          have e1 : nI n - 1 = nI (n - 1) := pk_sub (a := n) (b := 1) (by omega)
          rw [e1, pk_sub (by omega)]
        rw [if_neg (nI_ge ht (by omega)), if_neg (by decide), en, body (n - 1 - t) (by omega) (by rw [if_neg a]; trivial)]
      · rw [putI_at]
        by_cases z : x = 40 * l + j + (n - 1 - t)
        · rw [if_pos ⟨rfl, z⟩, if_pos (by omega), show x - (40 * l + j) = n - 1 - t by omega]
        · rw [if_neg (fun w => z w.2), hd]
          by_cases w : 40 * l + j + n - t ≤ x ∧ x < 40 * l + j + n
          · rw [if_pos w, if_pos (by omega)]
          · rw [if_neg w, if_neg (by omega)]
  · rintro ⟨τi, y, z⟩ ⟨hz, hy, hr, hd⟩
    dsimp only at hz hy hr hd
    subst hz hy
    refine ⟨(nI n, τi), fun ih => ?_, rfl, hr, fun x => ?_⟩
    · unfold fX5_copy_L121
      dsimp only
      rw [if_pos (nI_le (Nat.le_refl _) (by omega))]
    · rw [hd]
      cases up with
      | false => simp only [Bool.false_eq_true, if_false]
      | true =>
        simp only [if_true]
        rw [show 40 * l + j + n - n = 40 * l + j by omega]
  · cases up with
    | false => simp only [Bool.false_eq_true, if_false]; rw [if_neg (by omega)]
    | true => simp only [if_true]; rw [if_neg (by omega)]
theorem mcopy_ok {τ : Mem} {k l i j n : Nat} (hk : k < 4) (hl : l < 4) (hi : i + n ≤ 40) (hj : j + n ≤ 40) : ∃ r, (if nI k = nI l then if nI j ≤ nI i then loopN (fX5_copy_L121 (nI k) (nI i) (nI l) (nI j) (nI n)) 1000 (τ, 0, 0) else loopN (fX5_copy_L121 (nI k) (nI i) (nI l) (nI j) (nI n)) 1000 (τ, 1, 0) else loopN (fX5_copy_L121 (nI k) (nI i) (nI l) (nI j) (nI n)) 1000 (τ, 0, 0)) = some r ∧ (r.1 = nI n ∧ (∀ x, x ≠ 16 → r.2.1 x = τ.1 x) ∧ ∀ x, r.2.1 16 x = if 40 * l + j ≤ x ∧ x < 40 * l + j + n then τ.1 16 (40 * k + i + (x - (40 * l + j))) else τ.1 16 x) := by
  rw [if_eq_lit (L := nI l) rfl (by omega) (by omega), if_le_lit (L := nI i) rfl (by omega) (by omega)]
  by_cases q : k = l
  · subst q
    rw [if_pos rfl]
    by_cases q2 : j ≤ i
    · rw [if_pos q2]
      exact mcopy_loop hk hk hi hj false (fun t ht => by simp only [Bool.false_eq_true, if_false]; omega)
    · rw [if_neg q2]
      exact mcopy_loop hk hk hi hj true (fun t ht => by simp only [if_true]; omega)
  · rw [if_neg q]
    exact mcopy_loop hk hl hi hj false (fun t ht => by simp only [Bool.false_eq_true, if_false]; omega)
theorem sh_there {σ τ : Mem} {k : Nat} (h : SHR σ τ k) (hne : ¬ τ.1 13 k = 0) : ∃ s n, s < 3 ∧ n ≤ 40 ∧ σ.1 (32 + 2 * k) 1 = nI s ∧ τ.1 13 k = 1 ∧ τ.1 14 k = nI s ∧ σ.1 (32 + 2 * k) 2 = nI n ∧ τ.1 15 k = nI n ∧ ∀ i, i < n → σ.1 (33 + 2 * k) i = τ.1 16 (40 * k + i) := by
  rcases h with ⟨_, b⟩ | h
  · exact absurd b hne
  · exact h
theorem st_copy : St_copy Rel := by
  rintro a1 a2 a3 a4 a5 σ τ ⟨S, h⟩
  dsimp only
  unfold fX4_copy fX5_copy
  rw [isSheet4, isSheet5, bn1_s, bn1_s, isSheet4, isSheet5, bn1_s, bn1_s]
  by_cases q1 : 0 ≤ a1.toInt ∧ a1.toInt ≤ 3
  · obtain ⟨k, hk, _, rfl⟩ := of_rng q1
    have hk : k < 4 := by omega
    have gk : inB (nI k) 4 = true := inB_nI hk (by decide)
    rw [if_pos q1, if_neg (show ¬ (1 : Int32) = 0 by decide), if_neg (show ¬ (1 : Int32) = 0 by decide)]
    by_cases q2 : 0 ≤ a3.toInt ∧ a3.toInt ≤ 3
    · obtain ⟨l, hl, _, rfl⟩ := of_rng q2
      have hl : l < 4 := by omega
      have gl : inB (nI l) 4 = true := inB_nI hl (by decide)
      rw [if_pos q2, if_neg (show ¬ (1 : Int32) = 0 by decide), if_neg (show ¬ (1 : Int32) = 0 by decide)]
      simp only [gd_of gk, gd_of gl, clampN hk, clampN hl, rd_nI (show k < 2147483648 by omega), rd_nI (show l < 2147483648 by omega)]
      rcases h.sh hk with hmiss | ⟨s, n, b1, b2, b3, b4, b5, b6, b7, b8⟩
      · rw [miss4 hmiss, bn1_s, if_neg (show ¬ (1 : Int32) = 0 by decide), hmiss.2, if_pos rfl]
        exact ⟨_, _, _, rfl, rfl, h.rel⟩
      · rw [there4 b1 b3, bn1_s, if_pos rfl, b4, if_neg (show ¬ (1 : Int32) = 0 by decide)]
        rcases h.sh hl with hmiss | ⟨s', n', c1, c2, c3, c4, c5, c6, c7, c8⟩
        · rw [miss4 hmiss, bn1_s, if_neg (show ¬ (1 : Int32) = 0 by decide), hmiss.2, if_pos rfl]
          exact ⟨_, _, _, rfl, rfl, h.rel⟩
        · rw [there4 c1 c3, bn1_s, if_pos rfl, c4, if_neg (show ¬ (1 : Int32) = 0 by decide), b3, c3, b5, c5]
          by_cases q3 : s = s'
          · subst q3
            rw [if_pos rfl, if_pos rfl, holds_ok σ b2 b6, bn1_s, holds_ok σ c2 c6, bn1_s, b7, c7]
            have z0 : (0 : Int32).toInt = 0 := rfl
            have t0 : ∀ a : Int32, a < 0 ↔ a.toInt < 0 := fun a => by rw [Int32.lt_iff_toInt_lt, z0]
            -- the model's tests, told by numbers
            have hM : ∀ (x : Option (Int32 × Mem)), (if a5 < 0 then some ((-12 : Int32), τ) else if a2 < 0 then some (-12, τ) else if a4 < 0 then some (-12, τ) else if nI n - a5 < a2 then some (-12, τ) else if a4 ≤ nI n' - a5 then x else some (-12, τ)) = if (0 ≤ a2.toInt ∧ 0 ≤ a5.toInt ∧ a5.toInt ≤ n ∧ a2.toInt ≤ (n : Int) - a5.toInt) ∧ (0 ≤ a4.toInt ∧ 0 ≤ a5.toInt ∧ a5.toInt ≤ n' ∧ a4.toInt ≤ (n' : Int) - a5.toInt) then x else some (-12, τ) := fun x => by
              by_cases w1 : a5 < 0
              · rw [if_pos w1, if_neg (fun z => by have := (t0 _).mp w1; omega)]
              · have w1' : ¬ a5.toInt < 0 := fun z => w1 ((t0 _).mpr z)
                rw [if_neg w1]
                by_cases w2 : a2 < 0
                · rw [if_pos w2, if_neg (fun z => by have := (t0 _).mp w2; omega)]
                · have w2' : ¬ a2.toInt < 0 := fun z => w2 ((t0 _).mpr z)
                  rw [if_neg w2]
                  by_cases w3 : a4 < 0
                  · rw [if_pos w3, if_neg (fun z => by have := (t0 _).mp w3; omega)]
                  · have w3' : ¬ a4.toInt < 0 := fun z => w3 ((t0 _).mpr z)
                    rw [if_neg w3]
                    have l5 := Int32.toInt_lt a5
                    have sb : ∀ m : Nat, m ≤ 40 → (nI m - a5).toInt = (m : Int) - a5.toInt := fun m hm => by
                      rw [Int32.toInt_sub, nI_toInt (by omega)]
                      apply Int.bmod_eq_of_le <;> omega
                    have e1 : nI n - a5 < a2 ↔ (n : Int) - a5.toInt < a2.toInt := by rw [Int32.lt_iff_toInt_lt, sb n b2]
                    have e2 : a4 ≤ nI n' - a5 ↔ a4.toInt ≤ (n' : Int) - a5.toInt := by rw [Int32.le_iff_toInt_le, sb n' c2]
                    by_cases w4 : nI n - a5 < a2
                    · rw [if_pos w4, if_neg (fun z => by have := e1.mp w4; omega)]
                    · have w4' : ¬ (n : Int) - a5.toInt < a2.toInt := fun z => w4 (e1.mpr z)
                      rw [if_neg w4]
                      by_cases w5 : a4 ≤ nI n' - a5
                      · have w5' := e2.mp w5
                        rw [if_pos w5, if_pos (by omega)]
                      · have w5' : ¬ a4.toInt ≤ (n' : Int) - a5.toInt := fun z => w5 (e2.mpr z)
                        rw [if_neg w5, if_neg (by omega)]
            rw [hM]
            by_cases r1 : 0 ≤ a2.toInt ∧ 0 ≤ a5.toInt ∧ a5.toInt ≤ n ∧ a2.toInt ≤ (n : Int) - a5.toInt
            · rw [if_pos r1, if_neg (show ¬ (1 : Int32) = 0 by decide)]
              by_cases r2 : 0 ≤ a4.toInt ∧ 0 ≤ a5.toInt ∧ a5.toInt ≤ n' ∧ a4.toInt ≤ (n' : Int) - a5.toInt
              · rw [if_pos r2, if_neg (show ¬ (1 : Int32) = 0 by decide), if_pos ⟨r1, r2⟩]
                obtain ⟨m, hm, _, rfl⟩ := of_rng (a := a5) (q := (n : Int)) (by omega)
                rw [nI_toInt (by omega)] at r1 r2
                obtain ⟨i, hi, _, rfl⟩ := of_rng (a := a2) (q := (n : Int)) (by omega)
                obtain ⟨j, hj, _, rfl⟩ := of_rng (a := a4) (q := (n' : Int)) (by omega)
                rw [nI_toInt (by omega)] at r1 r2
                obtain ⟨r, f1, f2, f3, f4⟩ := mcopy_ok (τ := τ) (k := k) (l := l) (i := i) (j := j) (n := m) hk hl (by omega) (by omega)
                have cp : cpOk (nI i) (nI j) (nI m) 40 40 = true := by
                  unfold cpOk
                  rw [nI_toInt (by omega), nI_toInt (by omega), nI_toInt (by omega), nI_clamp (by omega), nI_clamp (by omega), nI_clamp (by omega)]
                  simp
                  omega
                rw [gd_of cp, stp_e]
                have hF : ∀ x e, (cpy σ (32 + 2 * k + 1) (nI i) (32 + 2 * l + 1) (nI j) (nI m)).1 x e = if x = 33 + 2 * l then (if j ≤ e ∧ e < j + m then σ.1 (33 + 2 * k) (i + (e - j)) else σ.1 (33 + 2 * l) e) else σ.1 x e := fun x e => by
                  unfold cpy
                  rw [putR_at, nI_clamp (by omega), nI_clamp (by omega), nI_clamp (by omega), show 32 + 2 * k + 1 = 33 + 2 * k by omega, show 32 + 2 * l + 1 = 33 + 2 * l by omega]
                  by_cases z : x = 33 + 2 * l
                  · rw [if_pos z, if_pos z]; rfl
                  · rw [if_neg z, if_neg z]
                have hF1 : ∀ x, x ≠ 33 + 2 * l → (cpy σ (32 + 2 * k + 1) (nI i) (32 + 2 * l + 1) (nI j) (nI m)).1 x = σ.1 x := fun x hx => by
                  funext e
                  rw [hF, if_neg hx]
                refine ⟨nI m, _, r.2, rfl, by rw [f1, ← f2], S, rel_sheet1 h hl (fun x _ b => hF1 x b) rfl (fun x hx => f3 x (by omega)) (fun e he hne => ⟨by rw [f3 13 (by decide)], by rw [f3 14 (by decide)], by rw [f3 15 (by decide)], fun x hx => by rw [f4, if_neg (by omega)]⟩) (Or.inr ⟨s, n', c1, c2, by rw [hF1 _ (by omega)]; exact c3, by rw [f3 13 (by decide)]; exact c4, by rw [f3 14 (by decide)]; exact c5, by rw [hF1 _ (by omega)]; exact c6, by rw [f3 15 (by decide)]; exact c7, fun e he => ?_⟩)⟩
                rw [hF, if_pos rfl, f4]
                by_cases z : j ≤ e ∧ e < j + m
                · rw [if_pos z, if_pos (by omega), b8 _ (by omega), show 40 * k + i + (40 * l + e - (40 * l + j)) = 40 * k + (i + (e - j)) by omega]
                · rw [if_neg z, if_neg (by omega)]; exact c8 e he
              · rw [if_neg r2, if_pos rfl, if_neg (fun z => r2 z.2)]
                exact ⟨-12, σ, τ, rfl, rfl, h.rel⟩
            · rw [if_neg r1, if_pos rfl, if_neg (fun z => r1 z.1)]
              exact ⟨-12, σ, τ, rfl, rfl, h.rel⟩
          · have q3' : ¬ nI s = nI s' := fun z => q3 (nI_inj (by omega) (by omega) z)
            rw [if_neg q3', if_neg q3']
            exact ⟨-13, σ, τ, rfl, rfl, h.rel⟩
    · rw [if_neg q2, if_pos rfl, if_pos rfl]
      exact ⟨-2, σ, τ, rfl, rfl, h.rel⟩
  · rw [if_neg q1, if_pos rfl, if_pos rfl]
    exact ⟨-2, σ, τ, rfl, rfl, h.rel⟩
theorem heap_loop {k s n p m : Nat} (hk : k < 4) (hm : m ≤ 8) (hn : n ≤ 40) (hp : p ≤ 40) {b2 b3 : Int32} : ∀ (rem t f : Nat) (σ τ : Mem) (S : FS) (came : Int32), t + rem = m → rem < f → RelS σ τ S → σ.1 (32 + 2 * k) 2 = nI n → τ.1 15 k = nI n → (∀ i, i < n → σ.1 (33 + 2 * k) i = τ.1 16 (40 * k + i)) → ∃ r σ' τ', loopN (fX4_heapOf_L9 (32 + 2 * k) b2 (nI m)) f (σ, came, nI (p + 3 * t), nI t) = some (r, σ') ∧ loopN (fX5_heap_L75 (nI k) b3 (nI p) (nI m)) f (τ, came, nI t) = some (r, τ') ∧ Rel σ' τ' := by
  intro rem
  induction rem with
  | zero =>
    intro t f σ τ S came ht hf h e1 e2 e3
    cases f with
    | zero => omega
    | succ f =>
      refine ⟨came, σ, τ, ?_, ?_, h.rel⟩
      · show fX4_heapOf_L9 (32 + 2 * k) b2 (nI m) _ (σ, came, nI (p + 3 * t), nI t) = _
        unfold fX4_heapOf_L9
        dsimp only
        rw [if_pos (nI_le (by omega) (by omega))]
      · show fX5_heap_L75 (nI k) b3 (nI p) (nI m) _ (τ, came, nI t) = _
        unfold fX5_heap_L75
        dsimp only
        rw [if_pos (nI_le (by omega) (by omega))]
  | succ rem ih =>
    intro t f σ τ S came ht hf h e1 e2 e3
    cases f with
    | zero => omega
    | succ f =>
      show ∃ r σ' τ', fX4_heapOf_L9 (32 + 2 * k) b2 (nI m) (loopN (fX4_heapOf_L9 (32 + 2 * k) b2 (nI m)) f) (σ, came, nI (p + 3 * t), nI t) = some (r, σ') ∧ fX5_heap_L75 (nI k) b3 (nI p) (nI m) (loopN (fX5_heap_L75 (nI k) b3 (nI p) (nI m)) f) (τ, came, nI t) = some (r, τ') ∧ Rel σ' τ'
      have ih2 := fun σ τ S came => ih (t + 1) f σ τ S came (by omega) (by omega)
      generalize loopN (fX4_heapOf_L9 (32 + 2 * k) b2 (nI m)) f = KC at ih2 ⊢
      generalize loopN (fX5_heap_L75 (nI k) b3 (nI p) (nI m)) f = KM at ih2 ⊢
      have e33 : 32 + 2 * k + 1 = 33 + 2 * k := by omega
      have gk : inB (nI k) 4 = true := inB_nI hk (by decide)
      unfold fX4_heapOf_L9 fX5_heap_L75
      dsimp only
      have i3 : (3 : Int32).toInt = 3 := rfl
      rw [if_neg (nI_ge (show t < m by omega) (by omega)), if_neg (nI_ge (show t < m by omega) (by omega)), holds_ok σ hn e1, bn1_s, if_neg (nI_pos (by omega)), gd_of gk, rd_nI (σ := τ) (j := 15) (k := k) (by omega), e2, m3x, m40, nI_add, nI_add, i3, nI_toInt (by omega)]
      have eM : nI p ≤ nI n - nI (3 * t) - 3 ↔ (p : Int) + 3 * t + 3 ≤ n := by
        have z : (nI n - nI (3 * t) - 3).toInt = (n : Int) - 3 * t - 3 := by
          rw [Int32.toInt_sub, Int32.toInt_sub, nI_toInt (by omega), nI_toInt (by omega), i3, Int.bmod_sub_bmod]
          apply (Int.bmod_eq_of_le (by omega) (by omega)).trans
          omega
        rw [Int32.le_iff_toInt_le, z, nI_toInt (by omega)]
        omega
      by_cases q : p + 3 * t + 3 ≤ n
      · rw [if_pos (show (0 : Int) ≤ ((p + 3 * t : Nat) : Int) ∧ (0 : Int) ≤ 3 ∧ (3 : Int) ≤ n ∧ ((p + 3 * t : Nat) : Int) ≤ (n : Int) - 3 by omega), if_neg (show ¬ (1 : Int32) = 0 by decide), if_pos (eM.mpr (by omega))]
        rw [show nI (p + 3 * t) + 1 = nI (p + 3 * t + 1) from nI_add _ 1, show nI (p + 3 * t) + 2 = nI (p + 3 * t + 2) from nI_add _ 2, show nI (40 * k + p + 3 * t) + 1 = nI (40 * k + p + 3 * t + 1) from nI_add _ 1, show nI (40 * k + p + 3 * t) + 2 = nI (40 * k + p + 3 * t + 2) from nI_add _ 2]
        rw [gd_of (inB_nI (show p + 3 * t < 40 by omega) (by decide)), gd_of (inB_nI (show p + 3 * t + 1 < 40 by omega) (by decide)), gd_of (inB_nI (show p + 3 * t + 2 < 40 by omega) (by decide)), gd_of (inB_nI (show 40 * k + p + 3 * t < 160 by omega) (by decide)), gd_of (inB_nI (show 40 * k + p + 3 * t + 1 < 160 by omega) (by decide)), gd_of (inB_nI (show 40 * k + p + 3 * t + 2 < 160 by omega) (by decide)), e33]
        have x : ∀ e, e < n → rd σ (33 + 2 * k) (nI e) = rd τ 16 (nI (40 * k + e)) := fun e he => by rw [rd_nI (by omega), rd_nI (by omega)]; exact e3 e he
        rw [x _ (by omega), x _ (by omega), x _ (by omega), show 40 * k + (p + 3 * t) = 40 * k + p + 3 * t by omega, show 40 * k + (p + 3 * t + 1) = 40 * k + p + 3 * t + 1 by omega, show 40 * k + (p + 3 * t + 2) = 40 * k + p + 3 * t + 2 by omega]
        obtain ⟨r, σ', τ', S', d1, d2, d3, d4, d5⟩ := dust_both h (rd τ 16 (nI (40 * k + p + 3 * t))) (rd τ 16 (nI (40 * k + p + 3 * t + 1))) (rd τ 16 (nI (40 * k + p + 3 * t + 2)))
        rw [d1, d2, bnd_s, bnd_s, nI_1, show nI (p + 3 * t) + 3 = nI (p + 3 * (t + 1)) from nI_add _ 3]
        obtain ⟨s1, s2⟩ := sh_scr k hk
        have nx := fun c => ih2 σ' τ' S' c d3 (by rw [d4.row s1 (by omega)]; exact e1) (by rw [d5.1 15 (by decide) (by decide) (by decide) (by decide) (by decide) (by decide) (by decide)]; exact e2) (fun i hi => by rw [d4.row s2 (by omega), d5.1 16 (by decide) (by decide) (by decide) (by decide) (by decide) (by decide) (by decide)]; exact e3 i hi)
        by_cases w : r < 0
        · rw [if_pos w, if_pos w, show came + 0 = came from Int32.add_zero _]; exact nx came
        · rw [if_neg w, if_neg w]; exact nx (came + 1)
      · rw [if_neg (show ¬ ((0 : Int) ≤ ((p + 3 * t : Nat) : Int) ∧ (0 : Int) ≤ 3 ∧ (3 : Int) ≤ n ∧ ((p + 3 * t : Nat) : Int) ≤ (n : Int) - 3) by omega), if_pos rfl, if_neg (fun z => q (by have := eM.mp z; omega))]
        exact ⟨-12, σ, τ, rfl, rfl, h.rel⟩
theorem st_heap : St_heap Rel := by
  rintro a1 a2 a3 a4 σ τ ⟨S, h⟩
  dsimp only
  unfold fX4_heap fX5_heap
  rw [isSheet4, isSheet5, bn1_s, bn1_s, within_I σ a2 0 2 (p := 0) (q := 2) rfl rfl, in_I τ a2 0 2 (p := 0) (q := 2) rfl rfl, bn1_s, bn1_s, within_I σ a4 0 8 (p := 0) (q := 8) rfl rfl, in_I τ a4 0 8 (p := 0) (q := 8) rfl rfl, bn1_s, bn1_s]
  by_cases q1 : 0 ≤ a1.toInt ∧ a1.toInt ≤ 3
  · obtain ⟨k, hk, _, rfl⟩ := of_rng q1
    have hk : k < 4 := by omega
    have g : inB (nI k) 4 = true := inB_nI hk (by decide)
    rw [if_pos q1, if_neg (show ¬ (1 : Int32) = 0 by decide), if_neg (show ¬ (1 : Int32) = 0 by decide)]
    by_cases q2 : 0 ≤ a2.toInt ∧ a2.toInt ≤ 2
    · rw [if_pos q2, if_neg (show ¬ (1 : Int32) = 0 by decide), if_neg (show ¬ (1 : Int32) = 0 by decide)]
      by_cases q3 : 0 ≤ a4.toInt ∧ a4.toInt ≤ 8
      · obtain ⟨m, hm, _, rfl⟩ := of_rng q3
        rw [if_pos q3, if_neg (show ¬ (1 : Int32) = 0 by decide), if_neg (show ¬ (1 : Int32) = 0 by decide)]
        simp only [gd_of g, clampN hk, rd_nI (show k < 2147483648 by omega)]
        rcases h.sh hk with hmiss | ⟨s, n, b1, b2, b3, b4, b5, b6, b7, b8⟩
        · rw [miss4 hmiss, bn1_s, if_neg (show ¬ (1 : Int32) = 0 by decide), hmiss.2, if_pos rfl, if_pos rfl]
          exact ⟨_, _, _, rfl, rfl, h.rel⟩
        · rw [there4 b1 b3, bn1_s, if_pos rfl, b4, if_neg (show ¬ (1 : Int32) = 0 by decide), if_neg (show ¬ (1 : Int32) = 0 by decide), b3, b5]
          by_cases q4 : nI s = a2
          · rw [if_pos q4, if_pos q4]
            unfold fX4_heapOf
            suffices hh : ∃ r σ' τ', loopN (fX4_heapOf_L9 (32 + 2 * k) a3 (nI m)) 1000 (σ, 0, a3, 0) = some (r, σ') ∧ loopN (fX5_heap_L75 (nI k) a2 a3 (nI m)) 1000 (τ, 0, 0) = some (r, τ') ∧ Rel σ' τ' by
              obtain ⟨r, σ', τ', f1, f2, f3⟩ := hh
              exact ⟨r, σ', τ', by rw [f1, bnd_s], f2, f3⟩
            by_cases q5 : 0 ≤ a3.toInt ∧ a3.toInt ≤ 40
            · obtain ⟨p, hp, _, rfl⟩ := of_rng q5
              exact heap_loop (s := s) hk (show m ≤ 8 by omega) b2 (show p ≤ 40 by omega) m 0 1000 σ τ S 0 (by omega) (by omega) h b6 b7 b8
            · rcases Nat.eq_zero_or_pos m with z | z
              · subst z
                exact ⟨0, σ, τ, rfl, rfl, h.rel⟩
              · refine ⟨-12, σ, τ, ?_, ?_, h.rel⟩
                · show fX4_heapOf_L9 (32 + 2 * k) a3 (nI m) (loopN _ 999) (σ, 0, a3, 0) = _
                  unfold fX4_heapOf_L9
                  dsimp only
                  rw [if_neg (show ¬ nI m ≤ 0 from nI_ge (a := 0) z (by omega)), holds_ok σ b2 b6, bn1_s, if_neg (show ¬ (0 ≤ a3.toInt ∧ 0 ≤ (3 : Int32).toInt ∧ (3 : Int32).toInt ≤ (n : Int) ∧ a3.toInt ≤ (n : Int) - (3 : Int32).toInt) from fun w => q5 ⟨w.1, by
                    have i3 : (3 : Int32).toInt = 3 := rfl
                    rw [i3] at w
                    omega⟩), if_pos rfl]
                · show fX5_heap_L75 (nI k) a2 a3 (nI m) (loopN _ 999) (τ, 0, 0) = _
                  unfold fX5_heap_L75
                  dsimp only
                  rw [if_neg (show ¬ nI m ≤ 0 from nI_ge (a := 0) z (by omega))]
                  by_cases w : a3 < 0
                  · rw [if_pos w]
                  · rw [if_neg w, gd_of g, rd_nI (by omega), b7, if_neg (fun y => q5 ?_)]
                    have w' : ¬ a3.toInt < (0 : Int32).toInt := fun z => w (Int32.lt_iff_toInt_lt.mpr z)
                    have y' := Int32.le_iff_toInt_le.mp y
                    have z0 : (0 : Int32).toInt = 0 := rfl
                    have e : nI n - 3 * 0 - 3 = nI n - 3 := by rw [show (3 : Int32) * 0 = 0 by decide, Int32.sub_zero]
                    have e2 : (nI n - 3).toInt = (n : Int) - 3 := pk_sub_toInt (a := n) (b := 3) (by omega) (by omega)
                    rw [e, e2] at y'
                    omega
          · rw [if_neg q4, if_neg q4]
            exact ⟨-13, σ, τ, rfl, rfl, h.rel⟩
      · rw [if_neg q3, if_pos rfl, if_pos rfl]
        exact ⟨-2, σ, τ, rfl, rfl, h.rel⟩
    · rw [if_neg q2, if_pos rfl, if_pos rfl]
      exact ⟨-2, σ, τ, rfl, rfl, h.rel⟩
  · rw [if_neg q1, if_pos rfl, if_pos rfl]
    exact ⟨-2, σ, τ, rfl, rfl, h.rel⟩
