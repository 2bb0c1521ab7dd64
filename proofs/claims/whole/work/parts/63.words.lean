/-! ===== the model asks what stands at hand ===== -/
def pl (w i : Nat) : Int32 := if i < wn w then wl w i else 0
theorem words_apart : ∀ w, w < 12 → ∀ v, v < 12 → w ≠ v → wn w = wn v → ∃ i, i < wn w ∧ wl w i ≠ wl v i := by
  have h : ∀ w, w < 12 → ∀ v, v < 12 → w ≠ v → wn w = wn v → alb (fun i => wl w i == wl v i) (wn w) = false := by decide +kernel
  intro w hw v hv hne hl
  have h1 := h w hw v hv hne hl
  by_cases q : ∃ i, i < wn w ∧ wl w i ≠ wl v i
  · exact q
  · exfalso
    rw [alb_of (wn w) (fun i hi => by
      by_cases z : wl w i = wl v i
      · rw [z]; simp
      · exact absurd ⟨i, hi, z⟩ q)] at h1
    cases h1
theorem wcd_inj : ∀ w, w < 12 → ∀ v, v < 12 → wcd w = wcd v → w = v := by decide +kernel
theorem wcd_m2 : ∀ w, w < 12 → wcd w ≠ -2 := by decide +kernel
theorem wl_ne0 : ∀ w, w < 12 → ∀ i, i < wn w → wl w i ≠ 0 := by decide +kernel
theorem isW_uniq {L : Nat → Nat} {s e w v : Nat} (hw : w < 12) (hv : v < 12) (h1 : isW L s e w = true) (h2 : isW L s e v = true) : w = v := by
  unfold isW at h1 h2
  rw [Bool.and_eq_true] at h1 h2
  have a1 := of_decide_eq_true h1.1
  have a2 := of_decide_eq_true h2.1
  by_cases z : w = v
  · exact z
  · exfalso
    obtain ⟨i, hi, hne⟩ := words_apart w hw v hv z (by omega)
    have b1 := alb_all _ h1.2 i hi
    have b2 := alb_all _ h2.2 i (by omega)
    exact hne ((eq_of_beq b1).symm.trans (eq_of_beq b2))
theorem wcode_iff {L : Nat → Nat} {s e w : Nat} (hw : w < 12) : wcode L s e = wcd w ↔ isW L s e w = true := by
  unfold wcode
  constructor
  · intro h
    cases hf : fs (isW L s e) 12 with
    | none => rw [hf] at h; exact absurd h.symm (wcd_m2 w hw)
    | some v =>
      rw [hf] at h
      have hv := fs_lt12 hf
      have e : v = w := wcd_inj v hv w hw h
      subst e
      by_cases q : isW L s e v = true
      · exact q
      · exfalso
        have key : ∀ n, fs (isW L s e) n = some v → isW L s e v = true := fun n => by
          induction n with
          | zero => intro z; cases z
          | succ n ihn =>
            intro z
            rw [fs_succ] at z
            cases hn : fs (isW L s e) n with
            | some j => rw [hn] at z; cases z; exact ihn hn
            | none =>
              rw [hn] at z
              dsimp only at z
              by_cases y : isW L s e n = true
              · rw [if_pos y] at z; cases z; exact y
              · rw [if_neg y] at z; cases z
        exact q (key 12 hf)
  · intro h
    obtain ⟨v, ⟨hv1, hv2⟩, hv3⟩ := pk_least (fun v => v < 12 ∧ isW L s e v = true) ⟨w, hw, h⟩
    have e : v = w := isW_uniq hv1 hw hv2 h
    subst e
    rw [fs_some hv2 (fun i hi => by
      by_cases y : isW L s e i = true
      · exact absurd ⟨by omega, y⟩ (hv3 i hi)
      · simpa using y) 12 hw]
section AT
variable {τ : Mem} {ρ n k : Nat} {L : Nat → Nat}
def lmb (L : Nat → Nat) (s e i : Nat) (c : Int32) : Bool := if e ≤ s + i then c == 0 else nI (L (s + i)) == c
theorem letter_ok (h : TX τ ρ L n) {s e i : Nat} (h24 : τ.1 0 24 = nI s) (h22 : τ.1 0 22 = nI e) (he : e ≤ n) (hs : s ≤ e) (hi : i < 8) (c : Int32) : fX5_isLetter (nI i) c τ = some (if lmb L s e i c then 1 else 0) := by
  have hn := h.2.1
  unfold fX5_isLetter lmb
  rw [h24, h22, nI_add]
  by_cases q : e ≤ s + i
  · rw [if_pos (nI_le q (by omega)), if_pos q]
    by_cases z : c = 0
    · rw [if_pos z, if_pos (by rw [z]; rfl)]
    · rw [if_neg z, if_neg (by rw [beq_eq_false_iff_ne.mpr z]; decide)]
  · rw [if_neg (nI_ge (by omega) (by omega)), if_neg q, byteAt_ok h (by omega), bn1_s, show byt L n (s + i) = nI (L (s + i)) by unfold byt; rw [if_pos (by omega)]]
    by_cases z : nI (L (s + i)) = c
    · rw [if_pos z, if_pos (by rw [z]; simp)]
    · rw [if_neg z, if_neg (by rw [beq_eq_false_iff_ne.mpr z]; decide)]
theorem sml_ne0 {l : Nat} (h : sml l = true) (hl : l < 256) : nI l ≠ 0 := fun z => by
  unfold sml at h
  rw [Bool.and_eq_true] at h
  have := of_decide_eq_true h.1
  have := nI_inj (b := 0) (by omega) (by omega) z
  omega
theorem lmb_iff {s e w : Nat} (hw : w < 12) (hse : s < e) (hl : ∀ j, s ≤ j → j < e → sml (L j) = true ∧ L j < 256) : (∀ i, i < 8 → lmb L s e i (pl w i) = true) ↔ isW L s e w = true := by
  have hwn := wn_12 w hw
  unfold isW
  rw [Bool.and_eq_true]
  constructor
  · intro h
    have el : e - s = wn w := by
      rcases Nat.lt_trichotomy (e - s) (wn w) with z | z | z
      · exfalso
        have := h (e - s) (by omega)
        unfold lmb pl at this
        rw [if_pos (by omega), if_pos z] at this
        exact wl_ne0 w hw _ z (eq_of_beq this)
      · exact z
      · exfalso
        have := h (wn w) (by omega)
        unfold lmb pl at this
        rw [if_neg (by omega), if_neg (by omega)] at this
        obtain ⟨a, b⟩ := hl (s + wn w) (by omega) (by omega)
        exact sml_ne0 a b (eq_of_beq this)
    refine ⟨decide_eq_true el, alb_of _ (fun i hi => ?_)⟩
    have := h i (by omega)
    unfold lmb pl at this
    rwa [if_neg (by omega), if_pos hi] at this
  · rintro ⟨h1, h2⟩ i hi
    have el := of_decide_eq_true h1
    unfold lmb pl
    by_cases q : i < wn w
    · rw [if_neg (by omega), if_pos q]
      exact alb_all _ h2 i q
    · rw [if_pos (by omega), if_neg q]
      rfl
theorem tok_word_ne {w : Nat} (hw : w < 12) : wcd w ≠ -1 ∧ (∀ v, v < 10000 → nI v ≠ wcd w) ∧ (∀ l, sg l ≠ wcd w) := by
  refine ⟨?_, fun v hv => ?_, fun l => ?_⟩
  · rcases wcd_rng w hw with h | h | h | h | h | h | ⟨j, hj, h⟩ <;> rw [h]
    · decide
    · decide
    · decide
    · decide
    · decide
    · decide
    · exact nI_nem1 (by omega)
  · have ng : ∀ c : Int32, c.toInt < 0 → nI v ≠ c := fun c hc z => by
      have := congrArg Int32.toInt z
      rw [nI_toInt (by omega)] at this
      omega
    rcases wcd_rng w hw with h | h | h | h | h | h | ⟨j, hj, h⟩ <;> rw [h]
    · exact ng _ (by decide)
    · exact ng _ (by decide)
    · exact ng _ (by decide)
    · exact ng _ (by decide)
    · exact ng _ (by decide)
    · exact ng _ (by decide)
    · exact fun z => by have := nI_inj (by omega) (by omega) z; omega
  · have sgl : ∀ c : Int32, c ≠ -2 → c ≠ -10 → c ≠ -11 → c ≠ -12 → c ≠ -13 → c ≠ -14 → c ≠ -15 → c ≠ -16 → c ≠ -17 → sg l ≠ c := fun c a0 a1 a2 a3 a4 a5 a6 a7 a8 => by
      unfold sg
      repeat' split
      · exact a1.symm
      · exact a2.symm
      · exact a3.symm
      · exact a4.symm
      · exact a5.symm
      · exact a6.symm
      · exact a7.symm
      · exact a8.symm
      · exact a0.symm
    rcases wcd_rng w hw with h | h | h | h | h | h | ⟨j, hj, h⟩ <;> rw [h]
    · exact sgl _ (by decide) (by decide) (by decide) (by decide) (by decide) (by decide) (by decide) (by decide) (by decide)
    · exact sgl _ (by decide) (by decide) (by decide) (by decide) (by decide) (by decide) (by decide) (by decide) (by decide)
    · exact sgl _ (by decide) (by decide) (by decide) (by decide) (by decide) (by decide) (by decide) (by decide) (by decide)
    · exact sgl _ (by decide) (by decide) (by decide) (by decide) (by decide) (by decide) (by decide) (by decide) (by decide)
    · exact sgl _ (by decide) (by decide) (by decide) (by decide) (by decide) (by decide) (by decide) (by decide) (by decide)
    · exact sgl _ (by decide) (by decide) (by decide) (by decide) (by decide) (by decide) (by decide) (by decide) (by decide)
    · have ng : ∀ c : Int32, c.toInt < 0 → nI (10000 + j) ≠ c := fun c hc z => by
        have := congrArg Int32.toInt z
        rw [nI_toInt (by omega)] at this
        omega
      exact sgl _ (ng _ (by decide)) (ng _ (by decide)) (ng _ (by decide)) (ng _ (by decide)) (ng _ (by decide)) (ng _ (by decide)) (ng _ (by decide)) (ng _ (by decide)) (ng _ (by decide))
theorem word_ok (h : TX τ ρ L n) (ta : TA τ L n k) (hb : τ.1 0 27 = 0) {w : Nat} (hw : w < 12) : fX5_isWord (pl w 0) (pl w 1) (pl w 2) (pl w 3) (pl w 4) (pl w 5) (pl w 6) (pl w 7) τ = some (if tk L n k = wcd w then 1 else 0) := by
  have hn := h.2.1
  obtain ⟨n1, n2, n3⟩ := tok_word_ne hw
  have no : τ.1 0 23 ≠ 1 → tk L n k ≠ wcd w → fX5_isWord (pl w 0) (pl w 1) (pl w 2) (pl w 3) (pl w 4) (pl w 5) (pl w 6) (pl w 7) τ = some (if tk L n k = wcd w then 1 else 0) := fun a b => by
    unfold fX5_isWord
    rw [hb, if_pos rfl, if_neg a, if_neg b]
  obtain ⟨h24, hle, ht⟩ := ta
  rcases ht with ⟨e1, e2⟩ | ⟨e, e1, e2, e3, e4, e5, e6, e7⟩ | ⟨v, e1, e2, e3, e4, e5⟩ | ⟨l, e1, e2, e3, e4, e5, e6⟩ | ⟨e1, e2⟩
  · exact no (by rw [e2]; decide) (by rw [e1]; exact n1.symm)
  · obtain ⟨s, hs⟩ : ∃ s, s = ts L n k := ⟨_, rfl⟩
    rw [← hs] at h24 e1 e3 e7
    have hl : ∀ j, s ≤ j → j < e → sml (L j) = true ∧ L j < 256 := fun j a b => ⟨e3 j a b, (h.2.2.2.2 j (by omega)).2⟩
    have hiff := lmb_iff hw e1 hl
    have hlt := fun i (hi : i < 8) (c : Int32) => letter_ok h h24 e5 e2 (Nat.le_of_lt e1) hi c
    unfold fX5_isWord
    rw [hb, if_pos rfl, e4, if_pos rfl, h24, e5]
    by_cases q8 : s + 8 < e
    · rw [if_pos (show nI s + 8 < nI e by rw [show nI s + 8 = nI (s + 8) from nI_add s 8]; exact nI_lt q8 (by omega)), if_neg (fun z => by
        rw [e7] at z
        have := (wcode_iff hw).mp z
        unfold isW at this
        rw [Bool.and_eq_true] at this
        have := of_decide_eq_true this.1
        have := wn_12 w hw
        omega)]
    · rw [if_neg (show ¬ nI s + 8 < nI e by rw [show nI s + 8 = nI (s + 8) from nI_add s 8]; exact nI_nlt (by omega) (by omega))]
      rw [show (0 : Int32) = nI 0 from rfl, hlt 0 (by decide), bn1_s, show nI 0 = (0 : Int32) from rfl, show (1 : Int32) = nI 1 from rfl, hlt 1 (by decide), bn1_s, show (2 : Int32) = nI 2 from rfl, hlt 2 (by decide), bn1_s, show (3 : Int32) = nI 3 from rfl, hlt 3 (by decide), bn1_s, show (4 : Int32) = nI 4 from rfl, hlt 4 (by decide), bn1_s, show (5 : Int32) = nI 5 from rfl, hlt 5 (by decide), bn1_s, show (6 : Int32) = nI 6 from rfl, hlt 6 (by decide), bn1_s, show (7 : Int32) = nI 7 from rfl, hlt 7 (by decide), bn1_s]
      have hall : (∀ i, i < 8 → lmb L s e i (pl w i) = true) ↔ tk L n k = wcd w := by rw [hiff, e7, wcode_iff hw]
      have one : ∀ (b : Bool) (x y : Option Int32), (if (if b then nI 1 else 0) = 0 then x else y) = if b then y else x := fun b x y => by cases b <;> rfl
      have one2 : ∀ (b : Bool) (x y : Option Int32), (if (if b then (1 : Int32) else 0) = 0 then x else y) = if b then y else x := fun b x y => by cases b <;> rfl
      simp only [one, one2]
      by_cases q : tk L n k = wcd w
      · have a := hall.mpr q
        rw [if_pos (a 0 (by decide)), if_pos (a 1 (by decide)), if_pos (a 2 (by decide)), if_pos (a 3 (by decide)), if_pos (a 4 (by decide)), if_pos (a 5 (by decide)), if_pos (a 6 (by decide)), if_pos (a 7 (by decide)), if_pos q]
      · rw [if_neg q]
        have nq : ∃ i, i < 8 ∧ ¬ lmb L s e i (pl w i) = true := by
          by_cases y : ∃ i, i < 8 ∧ ¬ lmb L s e i (pl w i) = true
          · exact y
          · exact absurd (hall.mp (fun i hi => by
              by_cases z : lmb L s e i (pl w i) = true
              · exact z
              · exact absurd ⟨i, hi, z⟩ y)) q
        obtain ⟨i, hi, hq⟩ := nq
        have goal : ∀ (b0 b1 b2 b3 b4 b5 b6 b7 : Bool), (b0 && b1 && b2 && b3 && b4 && b5 && b6 && b7) = false → (if b0 then if b1 then if b2 then if b3 then if b4 then if b5 then if b6 then if b7 then some (nI 1) else some 0 else some 0 else some 0 else some 0 else some 0 else some 0 else some 0 else some 0) = some (0 : Int32) := by decide
        refine goal _ _ _ _ _ _ _ _ ?_
        rcases (show i = 0 ∨ i = 1 ∨ i = 2 ∨ i = 3 ∨ i = 4 ∨ i = 5 ∨ i = 6 ∨ i = 7 by omega) with rfl | rfl | rfl | rfl | rfl | rfl | rfl | rfl <;> simp only [Bool.not_eq_true] at hq <;> rw [hq] <;> simp
  · exact no (by rw [e3]; decide) (by rw [e2]; exact n2 v e1)
  · exact no (by rw [e4]; decide) (by rw [e2]; exact n3 l)
  · exact no (by rw [e2]; decide) (by rw [e1]; exact (wcd_m2 w hw).symm)
theorem word_bad (hb : ¬ τ.1 0 27 = 0) (a b c d e f g h : Int32) : fX5_isWord a b c d e f g h τ = some 0 := by
  unfold fX5_isWord
  rw [if_neg hb]
theorem sign_bad (hb : ¬ τ.1 0 27 = 0) (c : Int32) : fX5_isSign c τ = some 0 := by
  unfold fX5_isSign
  rw [if_neg hb]
theorem sg_inj : ∀ l, l < 256 → ∀ c, c < 256 → sg c ≠ -2 → sg l = sg c → l = c := by
  intro l hl c hc h1 h2
  have h3 : sg l ≠ -2 := by rw [h2]; exact h1
  rcases sg_in l hl h3 with rfl | rfl | rfl | rfl | rfl | rfl | rfl | rfl <;> rcases sg_in c hc h1 with rfl | rfl | rfl | rfl | rfl | rfl | rfl | rfl <;> first | rfl | exact absurd h2 (by decide)
theorem sg_neg {c : Nat} (hc : c < 256) (h : sg c ≠ -2) : sg c ≠ -1 ∧ (sg c).toInt < 0 ∧ (∀ w, w < 12 → wcd w ≠ sg c) := by
  refine ⟨?_, ?_, fun w hw => ((tok_word_ne hw).2.2 c).symm⟩
  · rcases sg_in c hc h with rfl | rfl | rfl | rfl | rfl | rfl | rfl | rfl <;> decide
  · rcases sg_in c hc h with rfl | rfl | rfl | rfl | rfl | rfl | rfl | rfl <;> decide
theorem sign_ok (ta : TA τ L n k) (hb : τ.1 0 27 = 0) {c : Nat} (hc : c < 256) (hs : sg c ≠ -2) : fX5_isSign (nI c) τ = some (if tk L n k = sg c then 1 else 0) := by
  obtain ⟨n1, n2, n3⟩ := sg_neg hc hs
  have no : τ.1 0 23 ≠ 3 → tk L n k ≠ sg c → fX5_isSign (nI c) τ = some (if tk L n k = sg c then 1 else 0) := fun a b => by
    unfold fX5_isSign
    rw [hb, if_pos rfl, if_neg a, if_neg b]
  obtain ⟨h24, hle, ht⟩ := ta
  rcases ht with ⟨e1, e2⟩ | ⟨e, e1, e2, e3, e4, e5, e6, e7⟩ | ⟨v, e1, e2, e3, e4, e5⟩ | ⟨l, e1, e2, e3, e4, e5, e6⟩ | ⟨e1, e2⟩
  · exact no (by rw [e2]; decide) (by rw [e1]; exact n1.symm)
  · refine no (by rw [e4]; decide) ?_
    rw [e7]
    unfold wcode
    cases hf : fs (isW L (ts L n k) e) 12 with
    | none => exact hs.symm
    | some w => exact n3 w (fs_lt12 hf)
  · refine no (by rw [e3]; decide) (by rw [e2]; exact fun z => by have := congrArg Int32.toInt z; rw [nI_toInt (by omega)] at this; omega)
  · unfold fX5_isSign
    rw [hb, if_pos rfl, e4, if_pos rfl, e5, nI_l (by omega), e2]
    by_cases q : l = c
    · rw [if_pos ((lg_cmp_eq _ _).mpr (by rw [q])), if_pos (by rw [q])]
    · rw [if_neg (fun z => q ((lN_eq (by omega) (by omega)).mp ((lg_cmp_eq _ _).mp z))), if_neg (fun z => q (sg_inj l e1 c hc hs z))]
  · exact no (by rw [e2]; decide) (by rw [e1]; exact hs.symm)
theorem fail_ok (hb : τ.1 0 27 = 0) : ∃ F, fX5_fail τ = some F ∧ F.1 0 27 = 1 ∧ F.1 0 28 = τ.1 0 24 ∧ PF τ F := by
  unfold fX5_fail
  rw [hb, if_pos rfl, stp_e, stp_e]
  exact ⟨_, rfl, by rw [putI_fld _ _ _ _ (by decide), putI_self], by rw [putI_self, putI_fld _ _ _ _ (by decide)], pf_put (pf_put PF.rf (by omega) _) (by omega) _⟩
theorem fail_bad (hb : ¬ τ.1 0 27 = 0) : fX5_fail τ = some τ := by
  unfold fX5_fail
  rw [if_neg hb]
end AT
