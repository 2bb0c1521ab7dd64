/-! ===== the class finds the tokens ===== -/
def LT (σ : Mem) (L : Nat → Nat) (n : Nat) : Prop := n ≤ 160 ∧ σ.1 3 0 = nI n ∧ ∀ i, i < n → σ.1 4 i = nI (L i) ∧ L i < 256
theorem small_256 : ∀ l, l < 256 → fX1_isSmall (nI l) zeroM = some (if sml l then 1 else 0) := by decide +kernel
theorem digit_256 : ∀ l, l < 256 → fX1_isDigit (nI l) zeroM = some (if dg l then 1 else 0) := by decide +kernel
theorem small_ok (σ : Mem) {l : Nat} (h : l < 256) : fX1_isSmall (nI l) σ = some (if sml l then 1 else 0) := (rfl : fX1_isSmall (nI l) σ = fX1_isSmall (nI l) zeroM).trans (small_256 l h)
theorem digit_ok (σ : Mem) {l : Nat} (h : l < 256) : fX1_isDigit (nI l) σ = some (if dg l then 1 else 0) := (rfl : fX1_isDigit (nI l) σ = fX1_isDigit (nI l) zeroM).trans (digit_256 l h)
theorem sign_256 : ∀ l, l < 256 → (bn1 (fJ0_indexOf_0f7a4 12 (((nI l).toUInt32 % 65536).toInt32) zeroM) fun r3 => if 0 ≤ r3 then some ((-10) - r3) else some (-2)) = some (sg l) := by decide +kernel
theorem len_13 : ∀ w, w < 13 → fJ0_length_8abf5 w zeroM = some (nI (wn w)) := by decide +kernel
theorem chr_12 : ∀ w, w < 12 → ∀ i, i < wn w → fJ0_charAt_5068e w (nI i) zeroM = some (wl w i) := by decide +kernel
theorem wof_12 : ∀ w, w < 12 → fX1_wordOf (nI w) zeroM = some w := by decide +kernel
theorem wb_12 : ∀ w, w < 12 → fX1_wordToken_b21 0 0 zeroM (nI w) = some (wcd w) := by decide +kernel
theorem wn_12 : ∀ w, w < 12 → 2 ≤ wn w ∧ wn w ≤ 6 := by decide
section FIND
variable {σ : Mem} {L : Nat → Nat} {n : Nat}
theorem es_loop (h : LT σ L n) (a : Int32) : ∀ k i f, i + k = n → k < f → loopN (fX1_endOfToken_L16 a σ) f (nI i) = some (nI (run sml L k i)) := by
  obtain ⟨hn, h0, hl⟩ := h
  intro k
  induction k with
  | zero =>
    intro i f hi hf
    cases f with
    | zero => omega
    | succ f =>
      show fX1_endOfToken_L16 a σ (loopN _ f) (nI i) = _
      unfold fX1_endOfToken_L16
      dsimp only
      rw [h0, if_pos (nI_le (by omega) (by omega))]
      rfl
  | succ k ih =>
    intro i f hi hf
    cases f with
    | zero => omega
    | succ f =>
      show fX1_endOfToken_L16 a σ (loopN (fX1_endOfToken_L16 a σ) f) (nI i) = _
      have ih2 := ih (i + 1) f (by omega) (by omega)
      generalize loopN (fX1_endOfToken_L16 a σ) f = K at ih2 ⊢
      unfold fX1_endOfToken_L16
      dsimp only
      rw [h0, if_neg (nI_ge (by omega) (by omega)), gd_of (inB_nI (by omega) (by decide)), rd_nI (by omega), (hl i (by omega)).1, small_ok σ (hl i (by omega)).2, bn1_s, nI_1, ih2]
      show _ = some (nI (if sml (L i) then run sml L k (i + 1) else i))
      by_cases q : sml (L i) = true
      · rw [if_pos q, if_neg (by decide), if_pos q]
      · rw [if_neg q, if_pos rfl, if_neg q]
theorem ed_loop (h : LT σ L n) (a : Int32) : ∀ k i f, i + k = n → k < f → loopN (fX1_endOfToken_L54 a σ) f (nI i) = some (nI (run dg L k i)) := by
  obtain ⟨hn, h0, hl⟩ := h
  intro k
  induction k with
  | zero =>
    intro i f hi hf
    cases f with
    | zero => omega
    | succ f =>
      show fX1_endOfToken_L54 a σ (loopN _ f) (nI i) = _
      unfold fX1_endOfToken_L54
      dsimp only
      rw [h0, if_pos (nI_le (by omega) (by omega))]
      rfl
  | succ k ih =>
    intro i f hi hf
    cases f with
    | zero => omega
    | succ f =>
      show fX1_endOfToken_L54 a σ (loopN (fX1_endOfToken_L54 a σ) f) (nI i) = _
      have ih2 := ih (i + 1) f (by omega) (by omega)
      generalize loopN (fX1_endOfToken_L54 a σ) f = K at ih2 ⊢
      unfold fX1_endOfToken_L54
      dsimp only
      rw [h0, if_neg (nI_ge (by omega) (by omega)), gd_of (inB_nI (by omega) (by decide)), rd_nI (by omega), (hl i (by omega)).1, digit_ok σ (hl i (by omega)).2, bn1_s, nI_1, ih2]
      show _ = some (nI (if dg (L i) then run dg L k (i + 1) else i))
      by_cases q : dg (L i) = true
      · rw [if_pos q, if_neg (by decide), if_pos q]
      · rw [if_neg q, if_pos rfl, if_neg q]
def eot (L : Nat → Nat) (n s : Nat) : Nat := if sml (L s) then ruN sml L n (s + 1) else if dg (L s) then ruN dg L n (s + 1) else s + 1
theorem endOf_ok (h : LT σ L n) {s : Nat} (hs : s < n) : fX1_endOfToken (nI s) σ = some (nI (eot L n s)) := by
  have e1 := es_loop h (nI s) (n - (s + 1)) (s + 1) 1000 (by omega) (by have := h.1; omega)
  have e2 := ed_loop h (nI s) (n - (s + 1)) (s + 1) 1000 (by omega) (by have := h.1; omega)
  obtain ⟨hn, h0, hl⟩ := h
  have g : inB (nI s) 160 = true := inB_nI (by omega) (by decide)
  unfold fX1_endOfToken eot
  rw [gd_of g, rd_nI (by omega), (hl s hs).1, small_ok σ (hl s hs).2, bn1_s, gd_of g, digit_ok σ (hl s hs).2, bn1_s, nI_1, e1, e2]
  by_cases q : sml (L s) = true
  · rw [if_pos q, if_neg (by decide), if_pos q]; rfl
  · rw [if_neg q, if_pos rfl, if_neg q]
    by_cases q2 : dg (L s) = true
    · rw [if_pos q2, if_neg (by decide), if_pos q2]; rfl
    · rw [if_neg q2, if_pos rfl, if_neg q2]
theorem isWord_ok (h : LT σ L n) {s e w : Nat} (hw : w < 12) (hse : s ≤ e) (he : e ≤ n) : fX1_isWord w (nI s) (nI e) σ = some (if isW L s e w then 1 else 0) := by
  obtain ⟨hn, h0, hl⟩ := h
  have hlen : fJ0_length_8abf5 w σ = some (nI (wn w)) := (rfl : fJ0_length_8abf5 w σ = fJ0_length_8abf5 w zeroM).trans (len_13 w (by omega))
  have hwn := wn_12 w hw
  unfold fX1_isWord
  rw [hlen, bn1_s, pk_sub hse]
  by_cases q : wn w = e - s
  · rw [if_pos (by rw [q])]
    have hA : isW L s e w = alb (fun i => nI (L (s + i)) == wl w i) (wn w) := by unfold isW; rw [decide_eq_true q.symm, Bool.true_and]
    rw [hA]
    have := loop_ex (b := fX1_isWord_L15 w (nI s) (nI e) σ) (fun i => nI (s + i)) (some (if alb (fun i => nI (L (s + i)) == wl w i) (wn w) then 1 else 0)) (wn w) (fun i => alb (fun i => nI (L (s + i)) == wl w i) i = true) (fun i hi hP => by
      have hch : fJ0_charAt_5068e w (nI i) σ = some (wl w i) := (rfl : fJ0_charAt_5068e w (nI i) σ = fJ0_charAt_5068e w (nI i) zeroM).trans (chr_12 w hw i hi)
      have body : ∀ ih, fX1_isWord_L15 w (nI s) (nI e) σ ih (nI (s + i)) = if nI (L (s + i)) = wl w i then ih (nI (s + (i + 1))) else some 0 := fun ih => by
        unfold fX1_isWord_L15
        dsimp only
        rw [if_neg (nI_ge (by omega) (by omega)), gd_of (inB_nI (by omega) (by decide)), pk_sub (by omega), show s + i - s = i by omega, hch, bn1_s, rd_nI (by omega), (hl (s + i) (by omega)).1, nI_1]
        rfl
      by_cases z : nI (L (s + i)) = wl w i
      · left
        refine ⟨fun ih => by rw [body, if_pos z], ?_⟩
        have e1 : alb (fun i => nI (L (s + i)) == wl w i) (i + 1) = (alb (fun i => nI (L (s + i)) == wl w i) i && (nI (L (s + i)) == wl w i)) := rfl
        rw [e1, hP, z]; simp
      · right
        exact fun ih => by rw [body, if_neg z, alb_no (p := fun i => nI (L (s + i)) == wl w i) hi (beq_eq_false_iff_ne.mpr z)]; rfl) (fun hP ih => by
      unfold fX1_isWord_L15
      dsimp only
      rw [if_pos (nI_le (by omega) (by omega)), hP]
      rfl) 1000 0 (Nat.zero_le _) (by omega) rfl
    exact this
  · rw [if_neg (fun z => q (nI_inj (by omega) (by omega) z))]
    have hA : isW L s e w = false := by unfold isW; rw [decide_eq_false (fun z => q z.symm), Bool.false_and]
    rw [hA]
    rfl
theorem wordTok_ok (h : LT σ L n) {s e : Nat} (hse : s ≤ e) (he : e ≤ n) : fX1_wordToken (nI s) (nI e) σ = some (wcode L s e) := by
  have hn := h.1
  have := loop_ex (b := fX1_wordToken_L2 (nI s) (nI e) σ) (fun i => nI i) (some (wcode L s e)) 12 (fun i => ∀ j, j < i → isW L s e j = false) (fun i hi hP => by
    have hof : fX1_wordOf (nI i) σ = some i := (rfl : fX1_wordOf (nI i) σ = fX1_wordOf (nI i) zeroM).trans (wof_12 i hi)
    have hb : fX1_wordToken_b21 (nI s) (nI e) σ (nI i) = some (wcd i) := (rfl : fX1_wordToken_b21 (nI s) (nI e) σ (nI i) = fX1_wordToken_b21 0 0 zeroM (nI i)).trans (wb_12 i hi)
    have body : ∀ ih, fX1_wordToken_L2 (nI s) (nI e) σ ih (nI i) = if isW L s e i then some (wcd i) else ih (nI (i + 1)) := fun ih => by
      unfold fX1_wordToken_L2
      dsimp only
      rw [if_neg (show ¬ (12 : Int32) ≤ nI i from nI_ge (b := 12) (by omega) (by omega)), hof, bn1_s, gd_of (decide_eq_true (by omega)), isWord_ok h hi hse he, bn1_s, hb, nI_1]
      by_cases z : isW L s e i = true
      · rw [if_pos z, if_neg (by decide), if_pos z]
      · rw [if_neg z, if_pos rfl, if_neg z]
    by_cases z : isW L s e i = true
    · right
      intro ih
      rw [body, if_pos z]
      unfold wcode
      rw [fs_some z hP 12 hi]
    · left
      refine ⟨fun ih => by rw [body, if_neg z], fun j hj => ?_⟩
      by_cases w : j = i
      · subst w; simpa using z
      · exact hP j (by omega)) (fun hP ih => by
    unfold fX1_wordToken_L2 wcode
    dsimp only
    rw [if_pos (show (12 : Int32) ≤ nI 12 by decide), fs_none 12 hP]) 1000 0 (Nat.zero_le _) (by omega) (fun j hj => by omega)
  exact this
theorem dig_step {a l : Nat} (ha : a < 1000000) (hl : 48 ≤ l) (h2 : l < 256) : nI a * 10 + nI l - 48 = nI (a * 10 + (l - 48)) := by
  rw [show nI a * (10 : Int32) = nI (a * 10) from pk_mul a 10, nI_add]
  have : nI (a * 10 + l) - nI 48 = nI (a * 10 + l - 48) := pk_sub (by omega)
  rw [show a * 10 + (l - 48) = a * 10 + l - 48 by omega]
  exact this
theorem dg_rng {l : Nat} (h : dg l = true) : 48 ≤ l ∧ l ≤ 57 := by
  unfold dg at h
  rw [Bool.and_eq_true] at h
  exact ⟨of_decide_eq_true h.1, of_decide_eq_true h.2⟩
theorem numTok_ok (h : LT σ L n) {s e : Nat} (hse : s ≤ e) (he : e ≤ n) (hd : ∀ j, s ≤ j → j < e → dg (L j) = true) : fX1_numberToken (nI s) (nI e) σ = some (if e - s ≤ 4 then nI (nvs L s (e - s)) else -2) := by
  obtain ⟨hn, h0, hl⟩ := h
  unfold fX1_numberToken
  rw [pk_sub hse, if_le_lit (L := 4) (k := 4) rfl (by omega) (by decide)]
  by_cases q : e - s ≤ 4
  · rw [if_pos q, if_pos q]
    have := loop_up (b := fX1_numberToken_L15 (nI s) (nI e) σ) (fun i => (nI (nvs L s i), nI (s + i))) (some (nI (nvs L s (e - s)))) (e - s) (fun i hi ih => by
      have hd1 := dg_rng (hd (s + i) (by omega) (by omega))
      have hv : nvs L s i < 10 ^ i := nvs_lt i (fun j hj => hd (s + j) (by omega) (by omega))
      have : 10 ^ i ≤ 10 ^ 4 := Nat.pow_le_pow_right (by decide) (by omega)
      unfold fX1_numberToken_L15
      dsimp only
      rw [if_neg (nI_ge (by omega) (by omega)), gd_of (inB_nI (by omega) (by decide)), rd_nI (by omega), (hl (s + i) (by omega)).1, nI_1, dig_step (by omega) hd1.1 (hl (s + i) (by omega)).2]
      rfl) (fun ih => by
      unfold fX1_numberToken_L15
      dsimp only
      rw [if_pos (nI_le (by omega) (by omega))]) 1000 0 (Nat.zero_le _) (by omega)
    exact this
  · rw [if_neg q, if_neg q]
theorem tokOf_ok (h : LT σ L n) {s : Nat} (hs : s < n) (hb : blk (L s) = false) : fX1_tokenOf (nI s) (nI (eot L n s)) σ = some (tok L n s).1 ∧ eot L n s = (tok L n s).2.2 ∧ (tok L n s).2.1 = s ∧ (tok L n s).1 ≠ -1 := by
  have hr : ruN blk L n s = s := ruN_no (fun _ => hb)
  have hS := fun e (h1 : s ≤ e) (h2 : e ≤ n) => wordTok_ok h h1 h2
  have hD := fun e (h1 : s ≤ e) (h2 : e ≤ n) hd => numTok_ok h (s := s) (e := e) h1 h2 hd
  obtain ⟨hn, h0, hl⟩ := h
  have g : inB (nI s) 160 = true := inB_nI (by omega) (by decide)
  unfold fX1_tokenOf
  rw [gd_of g, rd_nI (by omega), (hl s hs).1, small_ok σ (hl s hs).2, bn1_s, gd_of g, digit_ok σ (hl s hs).2, bn1_s, gd_of g]
  unfold tok eot
  rw [hr]
  dsimp only
  rw [if_pos hs]
  by_cases q : sml (L s) = true
  · have a1 := ruN_ge sml L n (s + 1)
    have a2 := ruN_le (p := sml) (L := L) (n := n) (i := s + 1) (by omega)
    rw [if_pos q, if_neg (show ¬ (1 : Int32) = 0 by decide), if_pos q, if_pos q, hS _ (by omega) a2]
    refine ⟨rfl, rfl, rfl, ?_⟩
    show wcode L s _ ≠ -1
    unfold wcode
    split
    · rename_i w hw
      rcases wcd_rng w (fs_lt12 hw) with h | h | h | h | h | h | ⟨j, hj, h⟩ <;> rw [h]
      · decide
      · decide
      · decide
      · decide
      · decide
      · decide
      · exact nI_nem1 (by omega)
    · decide
  · rw [if_neg q, if_pos rfl, if_neg q, if_neg q]
    by_cases q2 : dg (L s) = true
    · have a1 := ruN_ge dg L n (s + 1)
      have a2 := ruN_le (p := dg) (L := L) (n := n) (i := s + 1) (by omega)
      rw [if_pos q2, if_neg (show ¬ (1 : Int32) = 0 by decide), if_pos q2, if_pos q2, hD _ (by omega) a2 (fun j h1 h2 => by
        by_cases z : j = s
        · subst z; exact q2
        · exact ruN_in (p := dg) (L := L) (n := n) (i := s + 1) (by omega) h2)]
      refine ⟨rfl, rfl, rfl, ?_⟩
      show (if ruN dg L n (s + 1) - s ≤ 4 then nI (nvs L s (ruN dg L n (s + 1) - s)) else -2) ≠ -1
      split
      · rename_i h4
        have hv : nvs L s (ruN dg L n (s + 1) - s) < 10 ^ (ruN dg L n (s + 1) - s) := nvs_lt _ (fun j hj => by
          by_cases z : j = 0
          · subst z; exact q2
          · exact ruN_in (p := dg) (L := L) (n := n) (i := s + 1) (by omega) (by omega))
        have : 10 ^ (ruN dg L n (s + 1) - s) ≤ 10 ^ 4 := Nat.pow_le_pow_right (by decide) h4
        exact nI_nem1 (by omega)
      · decide
    · rw [if_neg q2, if_pos rfl, if_neg q2, if_neg q2]
      refine ⟨(rfl : _ = (bn1 (fJ0_indexOf_0f7a4 12 (((nI (L s)).toUInt32 % 65536).toInt32) zeroM) fun r3 => if 0 ≤ r3 then some ((-10) - r3) else some (-2))).trans (sign_256 _ (hl s hs).2), rfl, rfl, ?_⟩
      show sg (L s) ≠ -1
      unfold sg
      repeat' split
      all_goals decide
/-- the tokens lie in their rows, up to the one at which they stop -/
def TOK (σ : Mem) (L : Nat → Nat) (n K : Nat) : Prop := K ≤ n ∧ σ.1 3 5 = nI (K + 1) ∧ (∀ k, k ≤ K → σ.1 5 k = tk L n k ∧ σ.1 6 k = nI (ts L n k)) ∧ (∀ k, k < K → tk L n k ≠ -1 ∧ tk L n k ≠ -2) ∧ (tk L n K = -1 ∨ tk L n K = -2)
theorem addTok_ok {k : Nat} (hk : k ≤ 160) (h5 : σ.1 3 5 = nI k) (t : Int32) (s : Int32) : fX1_addToken t s σ = some (putI (putI (putI σ 5 k t) 6 k s) 3 5 (nI (k + 1))) := by
  have g : inB (nI k) 161 = true := inB_nI (by omega) (by decide)
  unfold fX1_addToken
  rw [h5, if_neg (show ¬ (160 : Int32) < nI k from nI_nlt (a := 160) hk (by omega)), gd_of g, stp_e, wr_nI (by omega)]
  have t1 : (putI σ 5 k t).1 3 5 = nI k := by rw [putI_row _ _ _ _ (by decide)]; exact h5
  rw [t1, gd_of g, stp_e, wr_nI (by omega)]
  have t2 : (putI (putI σ 5 k t) 6 k s).1 3 5 = nI k := by rw [putI_row _ _ _ _ (by decide)]; exact t1
  rw [t2, stp_e, nI_1]
end FIND
/-- frame of the reader's finding -/
def FF (σ σ' : Mem) : Prop := (∀ j, j ≠ 3 → j ≠ 5 → j ≠ 6 → σ'.1 j = σ.1 j) ∧ (∀ k, k ≠ 5 → σ'.1 3 k = σ.1 3 k) ∧ σ'.2 = σ.2
theorem FF.tr {σ σ' σ'' : Mem} (h : FF σ σ') (h' : FF σ' σ'') : FF σ σ'' := ⟨fun j a b c => (h'.1 j a b c).trans (h.1 j a b c), fun k a => (h'.2.1 k a).trans (h.2.1 k a), h'.2.2.trans h.2.2⟩
theorem ft_loop {L : Nat → Nat} {n : Nat} : ∀ (m i f k : Nat) (σ : Mem), n - i ≤ m → m < f → i ≤ n → k ≤ i → LT σ L n → σ.1 3 5 = nI k → tok L n i = tok L n (tkp L n k) → (∀ j, j < k → σ.1 5 j = tk L n j ∧ σ.1 6 j = nI (ts L n j)) → (∀ j, j < k → tk L n j ≠ -1 ∧ tk L n j ≠ -2) → ∃ F K, loopN fX1_findTokens_L7 f (σ, nI i) = some F ∧ TOK F L n K ∧ FF σ F := by
  intro m
  induction m with
  | zero =>
    intro i f k σ hm hf hi hk hL h5 ht hst hok
    obtain ⟨hn, h0, hl⟩ := id hL
    cases f with
    | zero => omega
    | succ f =>
      have e : i = n := by omega
      subst e
      have et : tok L i i = (-1, i, i) := by
        unfold tok
        rw [ruN_no (fun h => absurd h (by omega))]
        dsimp only
        rw [if_neg (by omega)]
      have e1 : tk L i k = -1 := by unfold tk; rw [← ht, et]
      have e2 : ts L i k = i := by unfold ts; rw [← ht, et]
      refine ⟨putI (putI (putI σ 5 k (-1)) 6 k (nI i)) 3 5 (nI (k + 1)), k, ?_, ⟨hk, putI_self .., fun j hj => ?_, hok, Or.inl e1⟩, fun j a b c => by rw [putI_row _ _ _ _ a, putI_row _ _ _ _ c, putI_row _ _ _ _ b], fun j a => by rw [putI_fld _ _ _ _ a, putI_row _ _ _ _ (by decide), putI_row _ _ _ _ (by decide)], rfl⟩
      · show fX1_findTokens_L7 (loopN _ f) (σ, nI i) = _
        unfold fX1_findTokens_L7 fX1_findTokens_b74
        dsimp only
        rw [h0, if_pos (nI_le (Nat.le_refl _) (by omega)), addTok_ok (by omega) h5]
        rfl
      · simp only [putI_row _ _ _ _ (show (5 : Nat) ≠ 3 by decide), putI_row _ _ _ _ (show (6 : Nat) ≠ 3 by decide), putI_row _ _ _ _ (show (5 : Nat) ≠ 6 by decide), putI_row _ _ _ _ (show (6 : Nat) ≠ 5 by decide)]
        by_cases z : j = k
        · subst z; rw [putI_self, putI_at, if_pos ⟨rfl, rfl⟩, e1, e2]; exact ⟨rfl, rfl⟩
        · rw [putI_fld _ _ _ _ z, putI_at, if_neg (fun w => z w.2), putI_row _ _ _ _ (show (6 : Nat) ≠ 5 by decide)]; exact hst j (by omega)
  | succ m ih =>
    intro i f k σ hm hf hi hk hL h5 ht hst hok
    by_cases hin : i = n
    · exact (ih i f k σ (by omega) (by omega) hi hk hL h5 ht hst hok)
    · obtain ⟨hn, h0, hl⟩ := id hL
      have hin : i < n := by omega
      cases f with
      | zero => omega
      | succ f =>
        have g : inB (nI i) 160 = true := inB_nI (by omega) (by decide)
        have step : ∀ K : Mem × Int32 → Option Mem, fX1_findTokens_L7 K (σ, nI i) = if nI (L i) = 32 then K (σ, nI (i + 1)) else if nI (L i) = 10 then K (σ, nI (i + 1)) else bn1 (fX1_endOfToken (nI i) σ) fun r3 => bn1 (fX1_tokenOf (nI i) r3 σ) fun r4 => bn1 (fX1_addToken r4 (nI i) σ) fun σ5 => if r4 = -2 then some σ5 else K (σ5, r3) := fun K => by
          unfold fX1_findTokens_L7
          dsimp only
          rw [h0, if_neg (nI_ge hin (by omega)), gd_of g, gd_of g, rd_nI (by omega), (hl i hin).1, nI_1]
        show ∃ F K, fX1_findTokens_L7 (loopN fX1_findTokens_L7 f) (σ, nI i) = some F ∧ TOK F L n K ∧ FF σ F
        rw [step]
        by_cases hb : blk (L i) = true
        · have ht2 : tok L n (i + 1) = tok L n (tkp L n k) := by rw [← tok_blank hin hb]; exact ht
          have go := ih (i + 1) f k σ (by omega) (by omega) (by omega) (by omega) hL h5 ht2 hst hok
          unfold blk at hb
          rw [Bool.or_eq_true] at hb
          by_cases z : nI (L i) = 32
          · rw [if_pos z]; exact go
          · rw [if_neg z]
            rcases hb with w | w
            · exact absurd (by rw [eq_of_beq w]; rfl) z
            · rw [if_pos (by rw [eq_of_beq w]; rfl)]; exact go
        · have hb' : blk (L i) = false := by simpa using hb
          have n32 : ¬ nI (L i) = 32 := fun z => hb (by
            have : L i = 32 := nI_inj (b := 32) (by have := (hl i hin).2; omega) (by omega) z
            unfold blk; rw [this]; rfl)
          have n10 : ¬ nI (L i) = 10 := fun z => hb (by
            have : L i = 10 := nI_inj (b := 10) (by have := (hl i hin).2; omega) (by omega) z
            unfold blk; rw [this]; rfl)
          obtain ⟨t1, t2, t3, t4⟩ := tokOf_ok hL hin hb'
          rw [if_neg n32, if_neg n10, endOf_ok hL hin, bn1_s, t1, bn1_s, addTok_ok (by omega) h5, bn1_s]
          have e1 : tk L n k = (tok L n i).1 := by unfold tk; rw [← ht]
          have e2 : ts L n k = i := by unfold ts; rw [← ht]; exact t3
          have e3 : tkp L n (k + 1) = (tok L n i).2.2 := by show (tok L n (tkp L n k)).2.2 = _; rw [← ht]
          have tn := tok_next (L := L) (n := n) (i := i) hi
          obtain ⟨G, hG⟩ : ∃ G, G = putI (putI (putI σ 5 k (tok L n i).1) 6 k (nI i)) 3 5 (nI (k + 1)) := ⟨_, rfl⟩
          rw [← hG]
          have gF : FF σ G := by
            rw [hG]
            exact ⟨fun j a b c => by rw [putI_row _ _ _ _ a, putI_row _ _ _ _ c, putI_row _ _ _ _ b], fun j a => by rw [putI_fld _ _ _ _ a, putI_row _ _ _ _ (by decide), putI_row _ _ _ _ (by decide)], rfl⟩
          have gst : ∀ j, j < k + 1 → G.1 5 j = tk L n j ∧ G.1 6 j = nI (ts L n j) := fun j hj => by
            rw [hG]
            simp only [putI_row _ _ _ _ (show (5 : Nat) ≠ 3 by decide), putI_row _ _ _ _ (show (6 : Nat) ≠ 3 by decide), putI_row _ _ _ _ (show (5 : Nat) ≠ 6 by decide)]
            by_cases z : j = k
            · subst z; rw [putI_self, putI_at, if_pos ⟨rfl, rfl⟩, e1, e2]; exact ⟨rfl, rfl⟩
            · rw [putI_fld _ _ _ _ z, putI_at, if_neg (fun w => z w.2), putI_row _ _ _ _ (show (6 : Nat) ≠ 5 by decide)]; exact hst j (by omega)
          have g5 : G.1 3 5 = nI (k + 1) := by rw [hG, putI_self]
          by_cases z : (tok L n i).1 = -2
          · rw [if_pos z]
            exact ⟨G, k, rfl, ⟨by omega, g5, fun j hj => gst j (by omega), hok, Or.inr (by rw [e1]; exact z)⟩, gF⟩
          · rw [if_neg z, t2]
            have lt := tn.2 t4
            obtain ⟨F, K, f1, f2, f3⟩ := ih (tok L n i).2.2 f (k + 1) G (by omega) (by omega) tn.1 (by omega) ⟨hn, by rw [gF.2.1 0 (by decide)]; exact h0, fun j hj => by rw [gF.1 4 (by decide) (by decide) (by decide)]; exact hl j hj⟩ g5 (by rw [e3]) gst (fun j hj => by
              by_cases w : j = k
              · subst w; rw [e1]; exact ⟨t4, z⟩
              · exact hok j (by omega))
            exact ⟨F, K, f1, f2, gF.tr f3⟩
theorem findTokens_ok {σ : Mem} {L : Nat → Nat} {n : Nat} (h : LT σ L n) : ∃ F K, fX1_findTokens σ = some F ∧ TOK F L n K ∧ FF σ F := by
  unfold fX1_findTokens
  rw [stp_e]
  have h' : LT (putI σ 3 5 0) L n := ⟨h.1, by rw [putI_fld _ _ _ _ (by decide)]; exact h.2.1, fun i hi => by rw [putI_row _ _ _ _ (by decide)]; exact h.2.2 i hi⟩
  obtain ⟨F, K, e1, e2, e3⟩ := ft_loop (n - 0) 0 1000 0 (putI σ 3 5 0) (Nat.le_refl _) (by have := h.1; omega) (Nat.zero_le _) (Nat.le_refl _) h' (putI_self ..) rfl (fun j hj => by omega) (fun j hj => by omega)
  exact ⟨F, K, e1, e2, ⟨fun j a b c => by rw [e3.1 j a b c, putI_row _ _ _ _ a], fun k a => by rw [e3.2.1 k a, putI_fld _ _ _ _ a], by rw [e3.2.2]; rfl⟩⟩
