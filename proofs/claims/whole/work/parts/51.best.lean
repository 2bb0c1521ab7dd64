/-! ===== best ===== -/
theorem nI_nem1 {k : Nat} (h : k < 2147483648) : ¬ nI k = -1 := fun z => by
  have := congrArg Int32.toInt z
  rw [nI_toInt h, show (-1 : Int32).toInt = -1 from rfl] at this
  omega
/-- the first with most, and how much -/
def bmx (g : Nat → Nat) : Nat → Nat × Nat
  | 0 => (0, 0)
  | i + 1 => if i = 0 ∨ (bmx g i).2 < g i then (i, g i) else bmx g i
def bmn (g : Nat → Nat) : Nat → Nat × Nat
  | 0 => (0, 0)
  | i + 1 => if i = 0 ∨ g i < (bmn g i).2 then (i, g i) else bmn g i
theorem bmx_ok (g : Nat → Nat) : ∀ i, 0 < i → (bmx g i).2 = g (bmx g i).1 ∧ (bmx g i).1 < i
  | 1, _ => by unfold bmx; rw [if_pos (Or.inl rfl)]; exact ⟨rfl, by omega⟩
  | i + 2, _ => by
    have ih := bmx_ok g (i + 1) (by omega)
    unfold bmx
    split
    · exact ⟨rfl, by show i + 1 < i + 2; omega⟩
    · exact ⟨ih.1, by omega⟩
theorem bmn_ok (g : Nat → Nat) : ∀ i, 0 < i → (bmn g i).2 = g (bmn g i).1 ∧ (bmn g i).1 < i
  | 1, _ => by unfold bmn; rw [if_pos (Or.inl rfl)]; exact ⟨rfl, by omega⟩
  | i + 2, _ => by
    have ih := bmn_ok g (i + 1) (by omega)
    unfold bmn
    split
    · exact ⟨rfl, by show i + 1 < i + 2; omega⟩
    · exact ⟨ih.1, by omega⟩
/-- the first with least of those that are let in -/
def blo (mv : Nat → Bool) (g : Nat → Nat) : Nat → Option (Nat × Nat)
  | 0 => none
  | i + 1 => match blo mv g i with
    | none => if mv i then some (i, g i) else none
    | some (a, l) => if mv i && decide (g i < l) then some (i, g i) else some (a, l)
theorem blo_ok (mv : Nat → Bool) (g : Nat → Nat) : ∀ i a l, blo mv g i = some (a, l) → l = g a ∧ a < i
  | 0, a, l, h => by cases h
  | i + 1, a, l, h => by
    unfold blo at h
    cases hb : blo mv g i with
    | none =>
      rw [hb] at h
      dsimp only at h
      split at h
      · cases h; exact ⟨rfl, by omega⟩
      · cases h
    | some q =>
      obtain ⟨a', l'⟩ := q
      rw [hb] at h
      dsimp only at h
      have ih := blo_ok mv g i a' l' hb
      split at h
      · cases h; exact ⟨rfl, by omega⟩
      · cases h; exact ⟨ih.1, by omega⟩
theorem bmx_s (g : Nat → Nat) (i : Nat) : bmx g (i + 1) = if i = 0 ∨ (bmx g i).2 < g i then (i, g i) else bmx g i := rfl
theorem bmn_s (g : Nat → Nat) (i : Nat) : bmn g (i + 1) = if i = 0 ∨ g i < (bmn g i).2 then (i, g i) else bmn g i := rfl
theorem blo_s (mv : Nat → Bool) (g : Nat → Nat) (i : Nat) : blo mv g (i + 1) = match blo mv g i with
    | none => if mv i then some (i, g i) else none
    | some (a, l) => if mv i && decide (g i < l) then some (i, g i) else some (a, l) := rfl
theorem togetherS_le {S : FS} (h : sN S ≤ 8) : togetherS S ≤ 64 := by
  unfold togetherS
  have := sm_le (f := fun i => sm (togS S i) i) (m := 8) (sN S) (fun i hi => by
    have := sm_le (f := togS S i) (m := 1) i (fun j _ => togS_le S i j)
    omega)
  have : sN S * 8 ≤ 8 * 8 := Nat.mul_le_mul_right 8 h
  omega
theorem sprS_le {S : FS} (h : okS S) {i j : Nat} (hi : i < sN S) (hj : j < sN S) : sprS S i j ≤ 10 := by
  unfold sprS
  split
  · rename_i c e hc he
    have h1 := (h.2.1 i hi).2.2 c hc
    have h2 := (h.2.1 j hj).2.2 e he
    unfold dif
    omega
  · omega
theorem spreadS_le {S : FS} (h : okS S) : spreadS S ≤ 640 := by
  unfold spreadS
  have h8 := h.1
  have := sm_le (f := fun i => sm (sprS S i) i) (m := 80) (sN S) (fun i hi => by
    have := sm_le (f := sprS S i) (m := 10) i (fun j hj => sprS_le h hi (by omega))
    omega)
  have : sN S * 80 ≤ 8 * 80 := Nat.mul_le_mul_right 80 h8
  omega
theorem mostTog_ok {σ : Mem} {S : FS} (h : CR σ 40 S) : ∃ r, fX4_mostTogether σ = some r ∧ (r.1 = nI (bmx (fun s => togetherS (strokeS S s)) 24).1 ∧ CR r.2 40 S ∧ PC σ r.2) := by
  unfold fX4_mostTogether
  have hg : ∀ s, togetherS (strokeS S s) ≤ 64 := fun s => togetherS_le (S := strokeS S s) h.1.1
  obtain ⟨g, hgd⟩ : ∃ g : Nat → Nat, g = fun s => togetherS (strokeS S s) := ⟨_, rfl⟩
  rw [← hgd]
  have hg' : ∀ s, g s ≤ 64 := fun s => by rw [hgd]; exact hg s
  refine loop_in (b := fX4_mostTogether_L6) (fun i v => v.2.2.2 = nI i ∧ v.2.1 = nI (bmx g i).1 ∧ v.2.2.1 = (if i = 0 then -1 else nI (bmx g i).2) ∧ CR v.1 40 S ∧ PC σ v.1) _ 24 ?_ ?_ 1000 0 (σ, 0, -1, 0) (Nat.zero_le _) (by omega) ⟨rfl, rfl, rfl, h, PC.rf⟩
  · rintro i ⟨σi, x, y, z⟩ hi ⟨hz, hx, hy, hc, hp⟩
    dsimp only at hz hx hy hc hp
    subst hz hx hy
    obtain ⟨F, e, c52, c40, p⟩ := ctry hc hi
    have body : ∀ ih, fX4_mostTogether_L6 ih (σi, nI (bmx g i).1, (if i = 0 then -1 else nI (bmx g i).2), nI i) = if nI (g i) ≤ (if i = 0 then -1 else nI (bmx g i).2) then ih (F, nI (bmx g i).1, (if i = 0 then -1 else nI (bmx g i).2), nI (i + 1)) else ih (F, nI i, nI (g i), nI (i + 1)) := fun ih => by
      unfold fX4_mostTogether_L6
      dsimp only
      rw [if_neg (show ¬ (24 : Int32) ≤ nI i from nI_ge (b := 24) (by omega) (by omega)), e, bn1_s, together_ok c52, bn1_s, nI_1, hgd]
    refine ⟨(F, nI (bmx g (i + 1)).1, nI (bmx g (i + 1)).2, nI (i + 1)), fun ih => ?_, rfl, rfl, rfl, c40, hp.tr p⟩
    rw [body]
    have b1 := hg' i
    have b2 : (bmx g i).2 ≤ 64 := by
      rcases Nat.eq_zero_or_pos i with w | w
      · subst w; exact Nat.zero_le _
      · rw [(bmx_ok g i w).1]; exact hg' _
    rw [bmx_s]
    by_cases w : i = 0
    · rw [if_pos w, if_pos (Or.inl w), if_neg (show ¬ nI (g i) ≤ -1 from fun q => by have := Int32.le_iff_toInt_le.mp q; rw [nI_toInt (by omega), show (-1 : Int32).toInt = -1 from rfl] at this; omega)]
    · rw [if_neg w, if_le_lit (L := nI (bmx g i).2) rfl (by omega) (by omega)]
      by_cases q : g i ≤ (bmx g i).2
      · rw [if_pos q, if_neg (fun z => by omega)]
      · rw [if_neg q, if_pos (Or.inr (by omega))]
  · rintro ⟨σi, x, y, z⟩ ⟨hz, hx, hy, hc, hp⟩
    dsimp only at hz hx hy hc hp
    subst hz hx hy
    refine ⟨(nI (bmx g 24).1, σi), fun ih => ?_, rfl, hc, hp⟩
    unfold fX4_mostTogether_L6
    dsimp only
    rw [if_pos (show (24 : Int32) ≤ nI 24 by decide)]
theorem leastSpr_ok {σ : Mem} {S : FS} (h : CR σ 40 S) : ∃ r, fX4_leastSpread σ = some r ∧ (r.1 = nI (bmn (fun s => spreadS (strokeS S s)) 24).1 ∧ CR r.2 40 S ∧ PC σ r.2) := by
  unfold fX4_leastSpread
  obtain ⟨g, hgd⟩ : ∃ g : Nat → Nat, g = fun s => spreadS (strokeS S s) := ⟨_, rfl⟩
  rw [← hgd]
  have hg' : ∀ s, g s ≤ 640 := fun s => by rw [hgd]; exact spreadS_le (okS_stroke h.1 s)
  refine loop_in (b := fX4_leastSpread_L6) (fun i v => v.2.2.2 = nI i ∧ v.2.1 = nI (bmn g i).1 ∧ v.2.2.1 = (if i = 0 then -1 else nI (bmn g i).2) ∧ CR v.1 40 S ∧ PC σ v.1) _ 24 ?_ ?_ 1000 0 (σ, 0, -1, 0) (Nat.zero_le _) (by omega) ⟨rfl, rfl, rfl, h, PC.rf⟩
  · rintro i ⟨σi, x, y, z⟩ hi ⟨hz, hx, hy, hc, hp⟩
    dsimp only at hz hx hy hc hp
    subst hz hx hy
    obtain ⟨F, e, c52, c40, p⟩ := ctry hc hi
    have body : ∀ ih, fX4_leastSpread_L6 ih (σi, nI (bmn g i).1, (if i = 0 then -1 else nI (bmn g i).2), nI i) = if (if i = 0 then -1 else nI (bmn g i).2) < 0 then ih (F, nI i, nI (g i), nI (i + 1)) else if (if i = 0 then -1 else nI (bmn g i).2) ≤ nI (g i) then ih (F, nI (bmn g i).1, (if i = 0 then -1 else nI (bmn g i).2), nI (i + 1)) else ih (F, nI i, nI (g i), nI (i + 1)) := fun ih => by
      unfold fX4_leastSpread_L6
      dsimp only
      rw [if_neg (show ¬ (24 : Int32) ≤ nI i from nI_ge (b := 24) (by omega) (by omega)), e, bn1_s, spread_ok c52, bn1_s, nI_1, hgd]
    refine ⟨(F, nI (bmn g (i + 1)).1, nI (bmn g (i + 1)).2, nI (i + 1)), fun ih => ?_, rfl, rfl, rfl, c40, hp.tr p⟩
    rw [body]
    have b1 := hg' i
    have b2 : (bmn g i).2 ≤ 640 := by
      rcases Nat.eq_zero_or_pos i with w | w
      · subst w; exact Nat.zero_le _
      · rw [(bmn_ok g i w).1]; exact hg' _
    rw [bmn_s]
    by_cases w : i = 0
    · rw [if_pos w, if_pos (Or.inl w), if_pos (show (-1 : Int32) < 0 by decide)]
    · rw [if_neg w, if_neg (show ¬ nI (bmn g i).2 < 0 from fun q => by have := Int32.lt_iff_toInt_lt.mp q; rw [nI_toInt (by omega), show (0 : Int32).toInt = 0 from rfl] at this; omega), if_le_lit (L := nI (g i)) rfl (by omega) (by omega)]
      by_cases q : (bmn g i).2 ≤ g i
      · rw [if_pos q, if_neg (fun z => by omega)]
      · rw [if_neg q, if_pos (Or.inr (by omega))]
  · rintro ⟨σi, x, y, z⟩ ⟨hz, hx, hy, hc, hp⟩
    dsimp only at hz hx hy hc hp
    subst hz hx hy
    refine ⟨(nI (bmn g 24).1, σi), fun ih => ?_, rfl, hc, hp⟩
    unfold fX4_leastSpread_L6
    dsimp only
    rw [if_pos (show (24 : Int32) ≤ nI 24 by decide)]
def lost (S : FS) : Option (Nat × Nat) := blo (fun s => dfr (strkS S s) (sA S) (sN S)) (fun s => outS (strokeS S s)) 24
def lo1 (o : Option (Nat × Nat)) : Int32 := match o with | none => -1 | some (a, _) => nI a
theorem fewest_ok {σ : Mem} {S : FS} (h : CR σ 40 S) : ∃ r, fX4_fewestLost σ = some r ∧ (r.1 = lo1 (lost S) ∧ CR r.2 40 S ∧ PC σ r.2) := by
  have h8 := h.n
  unfold fX4_fewestLost
  obtain ⟨g, hgd⟩ : ∃ g : Nat → Nat, g = fun s => outS (strokeS S s) := ⟨_, rfl⟩
  obtain ⟨mv, hmv⟩ : ∃ mv : Nat → Bool, mv = fun s => dfr (strkS S s) (sA S) (sN S) := ⟨_, rfl⟩
  have hg' : ∀ s, g s ≤ 8 := fun s => by rw [hgd]; have := outS_le (strokeS S s); have e : sN (strokeS S s) = sN S := rfl; dsimp only; omega
  have hl : lost S = blo mv g 24 := by rw [hgd, hmv]; rfl
  rw [hl]
  refine loop_in (b := fX4_fewestLost_L7) (fun i v => v.2.2.2 = nI i ∧ v.2.1 = lo1 (blo mv g i) ∧ v.2.2.1 = (match blo mv g i with | none => 9 | some (_, l) => nI l) ∧ CR v.1 40 S ∧ PC σ v.1) _ 24 ?_ ?_ 1000 0 (σ, -1, 9, 0) (Nat.zero_le _) (by omega) ⟨rfl, rfl, rfl, h, PC.rf⟩
  · rintro i ⟨σi, x, y, z⟩ hi ⟨hz, hx, hy, hc, hp⟩
    dsimp only at hz hx hy hc hp
    subst hz
    obtain ⟨F, e, c52, c40, p⟩ := ctry hc hi
    have hd : fX0_differs 52 40 F = some (if mv i then 1 else 0) := by rw [hmv]; exact differs_ok c52 c40 rfl
    have ho : fX0_outs 52 F = some (nI (g i)) := by rw [hgd]; exact outs_ok c52
    have body : ∀ ih, fX4_fewestLost_L7 ih (σi, x, y, nI i) = if y ≤ nI (g i) then ih (F, x, y, nI (i + 1)) else if mv i then ih (F, nI i, nI (g i), nI (i + 1)) else ih (F, x, y, nI (i + 1)) := fun ih => by
      unfold fX4_fewestLost_L7
      dsimp only
      rw [if_neg (show ¬ (24 : Int32) ≤ nI i from nI_ge (b := 24) (by omega) (by omega)), e, bn1_s, ho, bn1_s, hd, bn1_s, nI_1]
      by_cases q : mv i = true
      · rw [if_pos q, if_neg (show ¬ (1 : Int32) = 0 by decide), if_pos q]
      · rw [if_neg q, if_pos rfl, if_neg q]
    have b1 := hg' i
    cases hb : blo mv g i with
    | none =>
      rw [hb] at hx hy
      dsimp only at hy
      have ny : ¬ y ≤ nI (g i) := by rw [hy]; exact nI_ge (b := 9) (by omega) (by omega)
      by_cases q : mv i = true
      · refine ⟨_, fun ih => by rw [body, if_neg ny, if_pos q], rfl, ?_, ?_, c40, hp.tr p⟩
        · rw [blo_s, hb]; dsimp only; rw [if_pos q]; rfl
        · rw [blo_s, hb]; dsimp only; rw [if_pos q]
      · refine ⟨_, fun ih => by rw [body, if_neg ny, if_neg q], rfl, ?_, ?_, c40, hp.tr p⟩
        · rw [blo_s, hb]; dsimp only; rw [if_neg q]; exact hx
        · rw [blo_s, hb]; dsimp only; rw [if_neg q]; exact hy
    | some al =>
      obtain ⟨a, l⟩ := al
      have bl := blo_ok mv g i a l hb
      have bl2 := hg' a
      rw [hb] at hx hy
      dsimp only at hy
      by_cases q : l ≤ g i
      · have ny : y ≤ nI (g i) := by rw [hy]; exact nI_le q (by omega)
        have e2 : blo mv g (i + 1) = some (a, l) := by
          rw [blo_s, hb]; dsimp only
          rw [decide_eq_false (by omega), Bool.and_false]
          rfl
        refine ⟨_, fun ih => by rw [body, if_pos ny], rfl, ?_, ?_, c40, hp.tr p⟩
        · rw [e2]; exact hx
        · rw [e2]; exact hy
      · have ny : ¬ y ≤ nI (g i) := by rw [hy]; exact nI_ge (by omega) (by omega)
        by_cases q2 : mv i = true
        · have e2 : blo mv g (i + 1) = some (i, g i) := by
            rw [blo_s, hb]; dsimp only
            rw [decide_eq_true (by omega), Bool.and_true, if_pos q2]
          refine ⟨_, fun ih => by rw [body, if_neg ny, if_pos q2], rfl, ?_, ?_, c40, hp.tr p⟩
          · rw [e2]; rfl
          · rw [e2]
        · have e2 : blo mv g (i + 1) = some (a, l) := by
            rw [blo_s, hb]; dsimp only
            rw [decide_eq_true (by omega), Bool.and_true, if_neg q2]
          refine ⟨_, fun ih => by rw [body, if_neg ny, if_neg q2], rfl, ?_, ?_, c40, hp.tr p⟩
          · rw [e2]; exact hx
          · rw [e2]; exact hy
  · rintro ⟨σi, x, y, z⟩ ⟨hz, hx, hy, hc, hp⟩
    dsimp only at hz hx hy hc hp
    subst hz
    refine ⟨(x, σi), fun ih => ?_, hx, hc, hp⟩
    unfold fX4_fewestLost_L7
    dsimp only
    rw [if_pos (show (24 : Int32) ≤ nI 24 by decide)]
/-! the model's best -/
theorem mbest1_ok {τ : Mem} {S : FS} (h : MR τ S) {w : Nat} (hw : w = 0 ∨ w = 1) : ∃ r, fX5_bestBy (nI w) τ = some r ∧ (r.1 = (if w = 0 then nI (bmx (fun s => togetherS (strokeS S s)) 24).1 else nI (bmx (fun s => togetherS (strokeS S s)) 24).2) ∧ MR r.2 S ∧ PM τ r.2) := by
  obtain ⟨τ1, e1, m1, l1, p1⟩ := mas h
  unfold fX5_bestBy
  rw [e1, bn1_s]
  obtain ⟨g, hgd⟩ : ∃ g : Nat → Nat, g = fun s => togetherS (strokeS S s) := ⟨_, rfl⟩
  rw [← hgd]
  have hg' : ∀ s, g s ≤ 64 := fun s => by rw [hgd]; exact togetherS_le (S := strokeS S s) h.1.1
  have w2 : ¬ (2 : Int32) ≤ nI w := by rcases hw with rfl | rfl <;> decide
  refine loop_in (b := fX5_bestBy_L11 (nI w)) (fun i v => v.2.2.2 = nI i ∧ v.2.1 = (if i = 0 then -1 else nI (bmx g i).1) ∧ v.2.2.1 = nI (bmx g i).2 ∧ MR v.1 S ∧ LA τ v.1 ∧ PM τ v.1) _ 24 ?_ ?_ 1000 0 (τ1, -1, 0, 0) (Nat.zero_le _) (by omega) ⟨rfl, rfl, rfl, m1, l1, p1⟩
  · rintro i ⟨τi, x, y, z⟩ hi ⟨hz, hx, hy, hm, hl, hp⟩
    dsimp only at hz hx hy hm hl hp
    subst hz hx hy
    obtain ⟨r1, τ2, e2, m2, l2, p2⟩ := mtry hm hl hi
    obtain ⟨τ3, e3, m3, l3, p3⟩ := mbk h l2
    have hto : fX5_togethers τ2 = some (nI (g i)) := by rw [hgd]; exact mtogethers_ok m2
    have body : ∀ ih, fX5_bestBy_L11 (nI w) ih (τi, (if i = 0 then -1 else nI (bmx g i).1), nI (bmx g i).2, nI i) = if (if i = 0 then (-1 : Int32) else nI (bmx g i).1) = -1 then ih (τ3, nI i, nI (g i), nI (i + 1)) else if nI (g i) ≤ nI (bmx g i).2 then ih (τ3, (if i = 0 then -1 else nI (bmx g i).1), nI (bmx g i).2, nI (i + 1)) else ih (τ3, nI i, nI (g i), nI (i + 1)) := fun ih => by
      unfold fX5_bestBy_L11 fX5_bestBy_b42
      dsimp only
      rw [if_neg (show ¬ (24 : Int32) ≤ nI i from nI_ge (b := 24) (by omega) (by omega)), e2, bnd_s, if_neg w2, hto, bn1_s, e3, bn1_s, nI_1]
    refine ⟨(τ3, nI (bmx g (i + 1)).1, nI (bmx g (i + 1)).2, nI (i + 1)), fun ih => ?_, rfl, rfl, rfl, m3, l3, p3⟩
    rw [body]
    have b1 := hg' i
    have b2 : (bmx g i).2 ≤ 64 := by
      rcases Nat.eq_zero_or_pos i with w | w
      · subst w; exact Nat.zero_le _
      · rw [(bmx_ok g i w).1]; exact hg' _
    rw [bmx_s]
    by_cases w : i = 0
    · rw [if_pos w, if_pos rfl, if_pos (Or.inl w)]
    · have := (bmx_ok g i (by omega)).2
      rw [if_neg w, if_neg (nI_nem1 (show (bmx g i).1 < 2147483648 by omega)), if_le_lit (L := nI (bmx g i).2) rfl (by omega) (by omega)]
      by_cases q : g i ≤ (bmx g i).2
      · rw [if_pos q, if_neg (fun z => by omega)]
      · rw [if_neg q, if_pos (Or.inr (by omega))]
  · rintro ⟨τi, x, y, z⟩ ⟨hz, hx, hy, hm, hl, hp⟩
    dsimp only at hz hx hy hm hl hp
    subst hz hx hy
    have b2 : (bmx g 24).2 ≤ 64 := by rw [(bmx_ok g 24 (by omega)).1]; exact hg' _
    refine ⟨(if w = 0 then nI (bmx g 24).1 else nI (bmx g 24).2, τi), fun ih => ?_, rfl, hm, hp⟩
    unfold fX5_bestBy_L11 fX5_bestBy_b71
    dsimp only
    rw [if_pos (show (24 : Int32) ≤ nI 24 by decide), if_neg (show ¬ (24 = 0) by decide)]
    rcases hw with rfl | rfl
    · rw [if_pos (by decide), if_pos rfl]
    · rw [if_neg (by decide), if_pos (nI_pos' (by omega)), if_neg (by decide)]
theorem neg_le {a b : Nat} (ha : a < 1000) (hb : b < 1000) : -nI a ≤ -nI b ↔ b ≤ a := by
  have e : ∀ c, c < 1000 → (-nI c).toInt = -(c : Int) := fun c hc => by
    rw [Int32.toInt_neg, nI_toInt (by omega)]
    apply Int.bmod_eq_of_le <;> omega
  rw [Int32.le_iff_toInt_le, e a ha, e b hb]
  omega
theorem mbest2_ok {τ : Mem} {S : FS} (h : MR τ S) {w : Nat} (hw : w = 2 ∨ w = 3) : ∃ r, fX5_bestBy (nI w) τ = some r ∧ (r.1 = (if w = 2 then nI (bmn (fun s => spreadS (strokeS S s)) 24).1 else nI (bmn (fun s => spreadS (strokeS S s)) 24).2) ∧ MR r.2 S ∧ PM τ r.2) := by
  obtain ⟨τ1, e1, m1, l1, p1⟩ := mas h
  unfold fX5_bestBy
  rw [e1, bn1_s]
  obtain ⟨g, hgd⟩ : ∃ g : Nat → Nat, g = fun s => spreadS (strokeS S s) := ⟨_, rfl⟩
  rw [← hgd]
  have hg' : ∀ s, g s ≤ 640 := fun s => by rw [hgd]; exact spreadS_le (okS_stroke h.1 s)
  have w2 : (2 : Int32) ≤ nI w := by rcases hw with rfl | rfl <;> decide
  refine loop_in (b := fX5_bestBy_L11 (nI w)) (fun i v => v.2.2.2 = nI i ∧ v.2.1 = (if i = 0 then -1 else nI (bmn g i).1) ∧ v.2.2.1 = -nI (bmn g i).2 ∧ MR v.1 S ∧ LA τ v.1 ∧ PM τ v.1) _ 24 ?_ ?_ 1000 0 (τ1, -1, 0, 0) (Nat.zero_le _) (by omega) ⟨rfl, rfl, (show (0 : Int32) = -nI 0 by decide), m1, l1, p1⟩
  · rintro i ⟨τi, x, y, z⟩ hi ⟨hz, hx, hy, hm, hl, hp⟩
    dsimp only at hz hx hy hm hl hp
    subst hz hx hy
    obtain ⟨r1, τ2, e2, m2, l2, p2⟩ := mtry hm hl hi
    obtain ⟨τ3, e3, m3, l3, p3⟩ := mbk h l2
    have hto : fX5_spread τ2 = some (nI (g i)) := by rw [hgd]; exact mspread_ok m2
    have body : ∀ ih, fX5_bestBy_L11 (nI w) ih (τi, (if i = 0 then -1 else nI (bmn g i).1), -nI (bmn g i).2, nI i) = if (if i = 0 then (-1 : Int32) else nI (bmn g i).1) = -1 then ih (τ3, nI i, -nI (g i), nI (i + 1)) else if -nI (g i) ≤ -nI (bmn g i).2 then ih (τ3, (if i = 0 then -1 else nI (bmn g i).1), -nI (bmn g i).2, nI (i + 1)) else ih (τ3, nI i, -nI (g i), nI (i + 1)) := fun ih => by
      unfold fX5_bestBy_L11 fX5_bestBy_b42
      dsimp only
      rw [if_neg (show ¬ (24 : Int32) ≤ nI i from nI_ge (b := 24) (by omega) (by omega)), e2, bnd_s, if_pos w2, hto, bn1_s, e3, bn1_s, nI_1]
    refine ⟨(τ3, nI (bmn g (i + 1)).1, -nI (bmn g (i + 1)).2, nI (i + 1)), fun ih => ?_, rfl, rfl, rfl, m3, l3, p3⟩
    rw [body]
    have b1 := hg' i
    have b2 : (bmn g i).2 ≤ 640 := by
      rcases Nat.eq_zero_or_pos i with w | w
      · subst w; exact Nat.zero_le _
      · rw [(bmn_ok g i w).1]; exact hg' _
    rw [bmn_s]
    by_cases w : i = 0
    · rw [if_pos w, if_pos rfl, if_pos (Or.inl w)]
    · have := (bmn_ok g i (by omega)).2
      rw [if_neg w, if_neg (nI_nem1 (show (bmn g i).1 < 2147483648 by omega))]
      by_cases q : g i < (bmn g i).2
      · rw [if_neg (fun z => by have := (neg_le (by omega) (by omega)).mp z; omega), if_pos (Or.inr q)]
      · rw [if_pos ((neg_le (by omega) (by omega)).mpr (by omega)), if_neg (fun z => by omega)]
  · rintro ⟨τi, x, y, z⟩ ⟨hz, hx, hy, hm, hl, hp⟩
    dsimp only at hz hx hy hm hl hp
    subst hz hx hy
    have b2 : (bmn g 24).2 ≤ 640 := by rw [(bmn_ok g 24 (by omega)).1]; exact hg' _
    refine ⟨(if w = 2 then nI (bmn g 24).1 else nI (bmn g 24).2, τi), fun ih => ?_, rfl, hm, hp⟩
    unfold fX5_bestBy_L11 fX5_bestBy_b71
    dsimp only
    rw [if_pos (show (24 : Int32) ≤ nI 24 by decide), if_neg (show ¬ (24 = 0) by decide)]
    rcases hw with rfl | rfl
    · rw [if_pos (by decide), if_pos rfl]
    · rw [if_neg (by decide), if_neg (show ¬ (3 = 2) by decide), Int32.neg_neg]
      by_cases q : 0 ≤ -nI (bmn g 24).2
      · have : (bmn g 24).2 = 0 := by
          have := (neg_le (a := 0) (b := (bmn g 24).2) (by omega) (by omega)).mp (by rw [show -nI 0 = 0 from rfl]; exact q)
          omega
        rw [if_pos q, this]
        rfl
      · rw [if_neg q]
theorem mmoved_loop {τ1 : Mem} {S S' : FS} (h : MR τ1 S') (hn : sN S' = sN S) (hS : ∀ d, d < sN S → ∀ c, sA S d = some c → c < 36) (h9 : ∀ d, d < sN S → τ1.1 9 d = enc (sA S d)) (a1 : Int32) (ih11 : Mem × Int32 × Int32 × Int32 → Option (Int32 × Mem)) (x y z : Int32) : loopN (fX5_lostFirst_L31 a1 ih11 τ1) 1000 (x, y, z, 0, 0) = fX5_lostFirst_b75 a1 ih11 τ1 x y z (if dfr (sA S') (sA S) (sN S) then 1 else 0) := by
  have h8 := h.n
  have := loop_up (b := fX5_lostFirst_L31 a1 ih11 τ1) (fun i => (x, y, z, (if dfr (sA S') (sA S) i then 1 else 0), nI i)) (fX5_lostFirst_b75 a1 ih11 τ1 x y z (if dfr (sA S') (sA S) (sN S) then 1 else 0)) (sN S) (fun i hi ih => by
    have g8 : inB (nI i) 8 = true := inB_nI (by omega) (by omega)
    unfold fX5_lostFirst_L31
    dsimp only
    rw [h.2.1, hn, if_neg (nI_ge hi (by omega)), gd_of g8, gd_of g8, rd_nI (by omega), rd_nI (by omega), (h.2.2.2.2.1 i (by omega)).2.2, h9 i hi, nI_1]
    have e1 : dfr (sA S') (sA S) (i + 1) = (dfr (sA S') (sA S) i || sA S' i != sA S i) := rfl
    by_cases q : dfr (sA S') (sA S) i = true
    · have e2 : dfr (sA S') (sA S) (i + 1) = true := by rw [e1, q]; rfl
      rw [if_pos q, if_neg (show ¬ (1 : Int32) = 0 by decide), if_pos e2]
    · have q' : dfr (sA S') (sA S) i = false := by simpa using q
      rw [if_neg q, if_pos rfl]
      by_cases w : sA S' i = sA S i
      · rw [if_pos (by rw [w]), if_neg (by rw [e1, q', w]; simp)]
      · rw [if_neg (fun v => w ((enc_eq (h.at36 (by omega)) (hS i hi)).mp v)), if_pos (by rw [e1, q']; simp [w])]) (fun ih => by
    unfold fX5_lostFirst_L31
    dsimp only
    rw [h.2.1, hn, if_pos (nI_le (Nat.le_refl _) (by omega))]) 1000 0 (Nat.zero_le _) (by omega)
  exact this
def lo2 (o : Option (Nat × Nat)) : Int32 := match o with | none => -1 | some (_, l) => nI l
theorem mlost_ok {τ : Mem} {S : FS} (h : MR τ S) (a1 : Int32) : ∃ r, fX5_lostFirst a1 τ = some r ∧ (r.1 = (if a1 = 4 then lo1 (lost S) else lo2 (lost S)) ∧ MR r.2 S ∧ PM τ r.2) := by
  have h8 := h.n
  obtain ⟨τ1, e1, m1, l1, p1⟩ := mas h
  unfold fX5_lostFirst
  rw [e1, bn1_s]
  obtain ⟨g, hgd⟩ : ∃ g : Nat → Nat, g = fun s => outS (strokeS S s) := ⟨_, rfl⟩
  obtain ⟨mv, hmv⟩ : ∃ mv : Nat → Bool, mv = fun s => dfr (strkS S s) (sA S) (sN S) := ⟨_, rfl⟩
  have hg' : ∀ s, g s ≤ 8 := fun s => by rw [hgd]; have := outS_le (strokeS S s); have e : sN (strokeS S s) = sN S := rfl; dsimp only; omega
  have hl : lost S = blo mv g 24 := by rw [hgd, hmv]; rfl
  rw [hl]
  refine loop_in (b := fX5_lostFirst_L11 a1) (fun i v => v.2.2.2 = nI i ∧ v.2.1 = lo1 (blo mv g i) ∧ v.2.2.1 = lo2 (blo mv g i) ∧ MR v.1 S ∧ LA τ v.1 ∧ PM τ v.1) _ 24 ?_ ?_ 1000 0 (τ1, -1, -1, 0) (Nat.zero_le _) (by omega) ⟨rfl, rfl, rfl, m1, l1, p1⟩
  · rintro i ⟨τi, x, y, z⟩ hi ⟨hz, hx, hy, hm, hl, hp⟩
    dsimp only at hz hx hy hm hl hp
    subst hz
    obtain ⟨r1, τ2, e2, m2, l2, p2⟩ := mtry hm hl hi
    obtain ⟨τ3, e3, m3, l3, p3⟩ := mbk h l2
    have ho : fX5_outMany τ2 = some (nI (g i)) := by rw [hgd]; exact outMany_ok m2
    have hmo := fun ih => mmoved_loop (S := S) m2 rfl (fun d hd => h.at36 hd) (fun d hd => by rw [l2.2.1 d (by omega)]; exact (h.2.2.2.2.1 d hd).2.2) a1 ih x y (nI i)
    have hd : dfr (sA (strokeS S i)) (sA S) (sN S) = mv i := by rw [hmv]; rfl
    rw [hd] at hmo
    have body : ∀ ih, fX5_lostFirst_L11 a1 ih (τi, x, y, nI i) = if mv i then (if x = -1 then ih (τ3, nI i, nI (g i), nI (i + 1)) else if y ≤ nI (g i) then ih (τ3, x, y, nI (i + 1)) else ih (τ3, nI i, nI (g i), nI (i + 1))) else ih (τ3, x, y, nI (i + 1)) := fun ih => by
      unfold fX5_lostFirst_L11
      dsimp only
      rw [if_neg (show ¬ (24 : Int32) ≤ nI i from nI_ge (b := 24) (by omega) (by omega)), e2, bnd_s, hmo]
      unfold fX5_lostFirst_b75
      rw [ho, bn1_s, e3, bn1_s, nI_1]
      by_cases q : mv i = true
      · rw [if_pos q, if_neg (show ¬ (1 : Int32) = 0 by decide), if_pos q]
      · rw [if_neg q, if_pos rfl, if_neg q]
    have b1 := hg' i
    cases hb : blo mv g i with
    | none =>
      rw [hb] at hx hy
      by_cases q : mv i = true
      · have e2 : blo mv g (i + 1) = some (i, g i) := by rw [blo_s, hb]; dsimp only; rw [if_pos q]
        exact ⟨_, fun ih => by rw [body, if_pos q, if_pos (show x = -1 from hx)], rfl, by rw [e2]; rfl, by rw [e2]; rfl, m3, l3, p3⟩
      · have e2 : blo mv g (i + 1) = none := by rw [blo_s, hb]; dsimp only; rw [if_neg q]
        exact ⟨_, fun ih => by rw [body, if_neg q], rfl, by rw [e2]; exact hx, by rw [e2]; exact hy, m3, l3, p3⟩
    | some al =>
      obtain ⟨a, l⟩ := al
      have bl := blo_ok mv g i a l hb
      have bl2 := hg' a
      rw [hb] at hx hy
      have xa : x = nI a := hx
      have yl : y = nI l := hy
      have xne : ¬ x = -1 := by rw [xa]; exact nI_nem1 (by omega)
      by_cases q2 : mv i = true
      · by_cases q : l ≤ g i
        · have e2 : blo mv g (i + 1) = some (a, l) := by
            rw [blo_s, hb]; dsimp only
            rw [decide_eq_false (by omega), Bool.and_false]
            rfl
          exact ⟨_, fun ih => by rw [body, if_pos q2, if_neg xne, if_pos (by rw [yl]; exact nI_le q (by omega))], rfl, by rw [e2]; exact hx, by rw [e2]; exact hy, m3, l3, p3⟩
        · have e2 : blo mv g (i + 1) = some (i, g i) := by
            rw [blo_s, hb]; dsimp only
            rw [decide_eq_true (by omega), Bool.and_true, if_pos q2]
          exact ⟨_, fun ih => by rw [body, if_pos q2, if_neg xne, if_neg (by rw [yl]; exact nI_ge (by omega) (by omega))], rfl, by rw [e2]; rfl, by rw [e2]; rfl, m3, l3, p3⟩
      · have e2 : blo mv g (i + 1) = some (a, l) := by
          rw [blo_s, hb]; dsimp only
          have : mv i = false := by simpa using q2
          rw [this, Bool.false_and]
          rfl
        exact ⟨_, fun ih => by rw [body, if_neg q2], rfl, by rw [e2]; exact hx, by rw [e2]; exact hy, m3, l3, p3⟩
  · rintro ⟨τi, x, y, z⟩ ⟨hz, hx, hy, hm, hl, hp⟩
    dsimp only at hz hx hy hm hl hp
    subst hz hx hy
    refine ⟨(if a1 = 4 then lo1 (blo mv g 24) else lo2 (blo mv g 24), τi), fun ih => ?_, rfl, hm, hp⟩
    unfold fX5_lostFirst_L11 fX5_lostFirst_b113
    dsimp only
    rw [if_pos (show (24 : Int32) ≤ nI 24 by decide)]
    by_cases q : a1 = 4
    · rw [if_pos q, if_pos q]
    · rw [if_neg q, if_neg q]
theorem b40_even {k : Nat} (hk : k = 0 ∨ k = 2 ∨ k = 4) (σ : Mem) (s : Int32) : fX4_best_b40 (nI k) σ s = some (s, σ) := by
  unfold fX4_best_b40
  rw [if_pos (by rcases hk with rfl | rfl | rfl <;> decide)]
theorem b40_odd {σ : Mem} {S : FS} (h : CR σ 40 S) {k s : Nat} (hk : k = 1 ∨ k = 3 ∨ k = 5) (hs : s < 24) : ∃ F, fX4_best_b40 (nI k) σ (nI s) = some (nI (if k = 1 then togetherS (strokeS S s) else if k = 3 then spreadS (strokeS S s) else outS (strokeS S s)), F) ∧ CR F 40 S ∧ PC σ F := by
  obtain ⟨F, e, c52, c40, p⟩ := ctry h hs
  refine ⟨F, ?_, c40, p⟩
  unfold fX4_best_b40
  rw [if_neg (by rcases hk with rfl | rfl | rfl <;> decide), if_neg (nI_nem1 (show s < 2147483648 by omega)), e, bn1_s]
  rcases hk with rfl | rfl | rfl
  · rw [if_pos (by decide), together_ok c52]; rfl
  · rw [if_neg (by decide), if_pos (by decide), spread_ok c52]; rfl
  · rw [if_neg (by decide), if_neg (by decide), outs_ok c52]; rfl
theorem st_best : St_best Rel := by
  intro a1
  refine simI_st (fun σ τ S h => ?_)
  have hc := h.c; have hm := h.m; have hn := hc.n
  unfold fX4_best fX5_best
  rw [within_I σ a1 0 5 (p := 0) (q := 5) rfl rfl, in_I τ a1 0 5 (p := 0) (q := 5) rfl rfl, bn1_s, bn1_s]
  by_cases q : 0 ≤ a1.toInt ∧ a1.toInt ≤ 5
  · obtain ⟨k, hk, _, rfl⟩ := of_rng q
    rw [if_pos q, if_neg (show ¬ (1 : Int32) = 0 by decide), if_neg (show ¬ (1 : Int32) = 0 by decide)]
    rcases (show (k = 0 ∨ k = 1) ∨ (k = 2 ∨ k = 3) ∨ k = 4 ∨ k = 5 by omega) with hk | hk | hk
    · obtain ⟨r, e1, e2, e3, e4⟩ := mostTog_ok hc
      obtain ⟨x, σ'⟩ := r
      obtain ⟨r', f1, f2, f3, f4⟩ := mbest1_ok hm hk
      dsimp only at e2 e3 e4
      subst e2
      have bb := bmx_ok (fun s => togetherS (strokeS S s)) 24 (by omega)
      rw [if_neg (by rcases hk with rfl | rfl <;> decide), e1, bnd_s, if_neg (by rcases hk with rfl | rfl <;> decide), f1]
      rcases hk with rfl | rfl
      · refine ⟨_, σ', r'.2, b40_even (Or.inl rfl) _ _, ?_, e3, f3, e4, f4⟩
        rw [if_pos rfl] at f2
        rw [← f2]; rfl
      · obtain ⟨F, g1, g2, g3⟩ := b40_odd e3 (k := 1) (Or.inl rfl) bb.2
        refine ⟨_, F, r'.2, g1, ?_, g2, f3, e4.tr g3, f4⟩
        rw [if_neg (by decide), bb.1] at f2
        rw [if_pos rfl, ← f2]; rfl
    · obtain ⟨r, e1, e2, e3, e4⟩ := leastSpr_ok hc
      obtain ⟨x, σ'⟩ := r
      obtain ⟨r', f1, f2, f3, f4⟩ := mbest2_ok hm hk
      dsimp only at e2 e3 e4
      subst e2
      have bb := bmn_ok (fun s => spreadS (strokeS S s)) 24 (by omega)
      rw [if_pos (by rcases hk with rfl | rfl <;> decide), if_neg (by rcases hk with rfl | rfl <;> decide), e1, bnd_s, if_neg (by rcases hk with rfl | rfl <;> decide), f1]
      rcases hk with rfl | rfl
      · refine ⟨_, σ', r'.2, b40_even (Or.inr (Or.inl rfl)) _ _, ?_, e3, f3, e4, f4⟩
        rw [if_pos rfl] at f2
        rw [← f2]; rfl
      · obtain ⟨F, g1, g2, g3⟩ := b40_odd e3 (k := 3) (Or.inr (Or.inl rfl)) bb.2
        refine ⟨_, F, r'.2, g1, ?_, g2, f3, e4.tr g3, f4⟩
        rw [if_neg (by decide), bb.1] at f2
        rw [if_neg (by decide), if_pos rfl, ← f2]; rfl
    · obtain ⟨r, e1, e2, e3, e4⟩ := fewest_ok hc
      obtain ⟨x, σ'⟩ := r
      obtain ⟨r', f1, f2, f3, f4⟩ := mlost_ok hm (nI k)
      dsimp only at e2 e3 e4
      subst e2
      rw [if_pos (by rcases hk with rfl | rfl <;> decide), if_pos (by rcases hk with rfl | rfl <;> decide), e1, bnd_s, if_pos (by rcases hk with rfl | rfl <;> decide), f1]
      rcases hk with rfl | rfl
      · refine ⟨_, σ', r'.2, b40_even (Or.inr (Or.inr rfl)) _ _, ?_, e3, f3, e4, f4⟩
        rw [if_pos (by decide)] at f2
        rw [← f2]; rfl
      · rw [if_neg (by decide)] at f2
        cases hl : lost S with
        | none =>
          rw [hl] at f2
          refine ⟨-1, σ', r'.2, ?_, ?_, e3, f3, e4, f4⟩
          · unfold fX4_best_b40 lo1
            rw [if_neg (by decide), if_pos rfl]
          · rw [show (-1 : Int32) = r'.1 from f2.symm]; rfl
        | some al =>
          obtain ⟨a, l⟩ := al
          have bb := blo_ok _ _ 24 a l hl
          rw [hl] at f2
          obtain ⟨F, g1, g2, g3⟩ := b40_odd e3 (k := 5) (Or.inr (Or.inr rfl)) bb.2
          refine ⟨_, F, r'.2, g1, ?_, g2, f3, e4.tr g3, f4⟩
          rw [if_neg (by decide), if_neg (by decide)]
          have : r'.1 = nI (outS (strokeS S a)) := by rw [f2]; show nI l = _; rw [bb.1]
          rw [← this]; rfl
  · rw [if_neg q, if_pos rfl, if_pos rfl]
    exact ⟨-2, σ, τ, rfl, rfl, hc, hm, PC.rf, PM.rf⟩
