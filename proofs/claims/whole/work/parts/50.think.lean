/-! ===== in thought: where, gather ===== -/
theorem ctry {σ : Mem} {S : FS} (h : CR σ 40 S) {s : Nat} (hs : s < 24) : ∃ F, fX4_think (nI s) σ = some F ∧ CR F 52 (strokeS S s) ∧ CR F 40 S ∧ PC σ F := by
  obtain ⟨F, e, h1, q⟩ := think_ok h hs
  exact ⟨F, e, h1, h.fr fl40 fl52 (by decide) q, q.pc (by omega)⟩
theorem mtry {τ0 τ : Mem} {S : FS} (h : MR τ S) (l : LA τ0 τ) {s : Nat} (hs : s < 24) : ∃ r τ1, fX5_strokes (nI s) τ = some (r, τ1) ∧ MR τ1 (strokeS S s) ∧ LA τ0 τ1 ∧ PM τ τ1 := by
  obtain ⟨r, e, _, h1, q⟩ := strokes_ok h hs
  exact ⟨r.1, r.2, e, h1, l.fm q, q.pm⟩
theorem mbk {τ0 τ : Mem} {S : FS} (h0 : MR τ0 S) (l : LA τ0 τ) : ∃ τ', fX5_laysBack τ = some τ' ∧ MR τ' S ∧ LA τ0 τ' ∧ PM τ0 τ' := by
  obtain ⟨τ', e, q, l'⟩ := laysBack_ok l
  exact ⟨τ', e, h0.qm q, l', q.pm⟩
theorem mas {τ : Mem} {S : FS} (h : MR τ S) : ∃ τ', fX5_laysAside τ = some τ' ∧ MR τ' S ∧ LA τ τ' ∧ PM τ τ' := by
  obtain ⟨τ', e, q, l'⟩ := laysAside_ok τ
  exact ⟨τ', e, h.qm q, l', q.pm⟩
/-- the first that has f, of those below n -/
def fs (f : Nat → Bool) : Nat → Option Nat
  | 0 => none
  | n + 1 => match fs f n with
    | some k => some k
    | none => if f n then some n else none
theorem fs_none {f : Nat → Bool} : ∀ n, (∀ i, i < n → f i = false) → fs f n = none
  | 0, _ => rfl
  | n + 1, h => by
    simp only [fs]
    rw [fs_none n (fun i hi => h i (by omega)), h n (by omega)]
    rfl
theorem fs_some {f : Nat → Bool} {k : Nat} (hk : f k = true) (h : ∀ i, i < k → f i = false) : ∀ n, k < n → fs f n = some k
  | n + 1, hn => by
    simp only [fs]
    by_cases e : k = n
    · subst e
      rw [fs_none k h, hk]
      rfl
    · rw [fs_some hk h n (by omega)]
/-! where -/
def rch (S : FS) (d : Nat) : Nat → Nat → Bool
  | 0, _ => false
  | i + 1, c => rch S d i c || (strkS S i d == some c)
theorem some_beq (c e : Nat) : (some c == some e) = (e == c) := by
  rw [show (some c == some e) = (c == e) from rfl, Bool.eq_iff_iff, beq_iff_eq, beq_iff_eq]
  exact ⟨Eq.symm, Eq.symm⟩
theorem reached_ok {σ : Mem} {S : FS} (h : CR σ 40 S) {d : Nat} (hd : d < sN S) (hin : sA S d ≠ none) : ∃ r, fX4_reached (nI d) σ = some r ∧ (LB r.1 (rch S d 24) ∧ CR r.2 40 S ∧ PC σ r.2) := by
  have hn := h.n
  unfold fX4_reached
  rw [isIn_ok h hd, bn1_s, if_neg hin, if_neg (by decide)]
  refine loop_in (b := fX4_reached_L18 (nI d)) (fun i v => v.2.2 = nI i ∧ LB v.2.1 (rch S d i) ∧ CR v.1 40 S ∧ PC σ v.1) _ 24 ?_ ?_ 1000 0 (σ, 0, 0) (Nat.zero_le _) (by omega) ⟨rfl, LB_0, h, PC.rf⟩
  · rintro i ⟨σi, x, y⟩ hi ⟨hy, hx, hc, hp⟩
    dsimp only at hy hx hc hp
    subst hy
    obtain ⟨F, e, c52, c40, p⟩ := ctry hc hi
    have hA : sA (strokeS S i) d = strkS S i d := rfl
    cases ho : strkS S i d with
    | none =>
      refine ⟨(F, x, nI (i + 1)), fun ih => ?_, rfl, hx.congr (fun c _ => ?_), c40, hp.tr p⟩
      · unfold fX4_reached_L18
        dsimp only
        rw [if_neg (show ¬ (24 : Int32) ≤ nI i from nI_ge (b := 24) (by omega) (by omega)), e, bn1_s, isIn_ok c52 hd, bn1_s, hA, ho, if_pos rfl, if_pos rfl, nI_1]
      · simp only [rch]; rw [ho]; simp
    | some c =>
      have hc36 : c < 36 := strkS_lt h.1 hd ho
      refine ⟨(F, x ||| ((1 : Int64) <<< ((nI c).toInt64 &&& 63)), nI (i + 1)), fun ih => ?_, rfl, (hx.or hc36).congr (fun e _ => ?_), c40, hp.tr p⟩
      · unfold fX4_reached_L18
        dsimp only
        rw [if_neg (show ¬ (24 : Int32) ≤ nI i from nI_ge (b := 24) (by omega) (by omega)), e, bn1_s, isIn_ok c52 hd, bn1_s, hA, ho, if_neg (show ¬ (if some c = none then (0 : Int32) else 1) = 0 by rw [if_neg (fun z => by cases z)]; decide), gd_of (inB_nI (by omega) (by decide)), rd_nI (by omega), (c52.2.2.2.2.1 d hd).2.2, hA, ho, nI_1]
        rfl
      · simp only [rch]; rw [ho, some_beq]
  · rintro ⟨σi, x, y⟩ ⟨hy, hx, hc, hp⟩
    dsimp only at hy hx hc hp
    subst hy
    refine ⟨(x, σi), fun ih => ?_, hx, hc, hp⟩
    unfold fX4_reached_L18
    dsimp only
    rw [if_pos (show (24 : Int32) ≤ nI 24 by decide)]
theorem comes_ok {τ : Mem} {S : FS} (h : MR τ S) {d : Nat} (hd : d < sN S) (hin : sA S d ≠ none) : ∃ r, fX5_comes (nI d) τ = some r ∧ (LB r.1 (rch S d 24) ∧ MR r.2 S ∧ PM τ r.2) := by
  have hn := h.n
  obtain ⟨τ1, e1, m1, l1, p1⟩ := mas h
  unfold fX5_comes
  rw [e1, bn1_s]
  have gd8 : inB (nI d) 8 = true := inB_nI (by omega) (by decide)
  have ne : ∀ {o : Option Nat}, o ≠ none → (∀ c, o = some c → c < 36) → ¬ enc o = -1 := fun h1 h2 z => h1 ((enc_none h2).mp z)
  refine loop_in (b := fX5_comes_L9 (nI d)) (fun i v => v.2.2 = nI i ∧ LB v.2.1 (rch S d i) ∧ MR v.1 S ∧ LA τ v.1 ∧ PM τ v.1) _ 24 ?_ ?_ 1000 0 (τ1, 0, 0) (Nat.zero_le _) (by omega) ⟨rfl, LB_0, m1, l1, p1⟩
  · rintro i ⟨τi, x, y⟩ hi ⟨hy, hx, hm, hl, hp⟩
    dsimp only at hy hx hm hl hp
    subst hy
    obtain ⟨r, τ2, e2, m2, l2, p2⟩ := mtry hm hl hi
    obtain ⟨τ3, e3, m3, l3, p3⟩ := mbk h l2
    have hA : sA (strokeS S i) d = strkS S i d := rfl
    have hr7 : rd τi 7 (nI d) = enc (sA S d) := by rw [rd_nI (by omega)]; exact (hm.2.2.2.2.1 d hd).2.2
    have hr2 : rd τ2 7 (nI d) = enc (strkS S i d) := by rw [rd_nI (by omega)]; exact (m2.2.2.2.2.1 d hd).2.2
    cases ho : strkS S i d with
    | none =>
      refine ⟨(τ3, x ||| 0, nI (i + 1)), fun ih => ?_, rfl, hx.or0.congr (fun c _ => ?_), m3, l3, p3⟩
      · unfold fX5_comes_L9
        dsimp only
        rw [if_neg (show ¬ (24 : Int32) ≤ nI i from nI_ge (b := 24) (by omega) (by omega)), gd_of gd8, hr7, if_neg (ne hin (h.at36 hd)), e2, bnd_s, gd_of gd8, hr2, ho, if_pos (show enc none = -1 from rfl), e3, bn1_s, nI_1]
      · simp only [rch]; rw [ho]; simp
    | some c =>
      have hc36 : c < 36 := strkS_lt h.1 hd ho
      refine ⟨(τ3, x ||| ((1 : Int64) <<< ((nI c).toInt64 &&& 63)), nI (i + 1)), fun ih => ?_, rfl, (hx.or hc36).congr (fun e _ => ?_), m3, l3, p3⟩
      · unfold fX5_comes_L9
        dsimp only
        rw [if_neg (show ¬ (24 : Int32) ≤ nI i from nI_ge (b := 24) (by omega) (by omega)), gd_of gd8, hr7, if_neg (ne hin (h.at36 hd)), e2, bnd_s, gd_of gd8, hr2, ho, if_neg (ne (fun z => by cases z) (fun y hy => by cases hy; exact hc36)), gd_of gd8, e3, bn1_s, nI_1]
        rfl
      · simp only [rch]; rw [ho, some_beq]
  · rintro ⟨τi, x, y⟩ ⟨hy, hx, hm, hl, hp⟩
    dsimp only at hy hx hm hl hp
    subst hy
    refine ⟨(x, τi), fun ih => ?_, hx, hm, hp⟩
    unfold fX5_comes_L9
    dsimp only
    rw [if_pos (show (24 : Int32) ≤ nI 24 by decide)]
theorem mwhere_loop (τ : Mem) (a : Int32) (p : Nat → Bool) (hb : ∀ i, i < 36 → ∀ ih x, fX5_where_L58 a τ ih (x, nI i) = if p i then ih (x ||| ((1 : Int64) <<< ((nI i).toInt64 &&& 63)), nI (i + 1)) else ih (x ||| 0, nI (i + 1))) : ∃ r, loopN (fX5_where_L58 a τ) 1000 (0, 0) = some r ∧ (LB r.1 (fun c => decide (c < 36) && p c) ∧ r.2 = τ) := by
  refine loop_in (b := fX5_where_L58 a τ) (fun i v => v.2 = nI i ∧ LB v.1 (fun c => decide (c < i) && p c)) _ 36 ?_ ?_ 1000 0 (0, 0) (Nat.zero_le _) (by omega) ⟨rfl, LB_0.congr (fun c _ => by simp)⟩
  · rintro i ⟨x, y⟩ hi ⟨hy, hx⟩
    dsimp only at hy hx
    subst hy
    by_cases q : p i = true
    · refine ⟨_, fun ih => by rw [hb i hi, if_pos q], rfl, (hx.or hi).congr (fun c _ => ?_)⟩
      by_cases z : c = i
      · subst z; simp [q]
      · have : (c < i + 1) = (c < i) := by apply propext; omega
        simp [z, this]
    · refine ⟨_, fun ih => by rw [hb i hi, if_neg q], rfl, hx.or0.congr (fun c _ => ?_)⟩
      by_cases z : c = i
      · subst z; simp [q]
      · have : (c < i + 1) = (c < i) := by apply propext; omega
        simp [this]
  · rintro ⟨x, y⟩ ⟨hy, hx⟩
    dsimp only at hy hx
    subst hy
    refine ⟨(x, τ), fun ih => ?_, hx, rfl⟩
    unfold fX5_where_L58
    dsimp only
    rw [if_pos (show (36 : Int32) ≤ nI 36 by decide)]
theorem sub10 {a : Int32} (h : 10 ≤ a.toInt) : (a - 10).toInt = a.toInt - 10 := by
  have := Int32.toInt_lt a
  rw [Int32.toInt_sub, show (10 : Int32).toInt = 10 from rfl]
  apply Int.bmod_eq_of_le <;> omega
theorem lt10 (a : Int32) : a < 10 ↔ a.toInt < 10 := by rw [Int32.lt_iff_toInt_lt, show (10 : Int32).toInt = 10 from rfl]
/-- one of dust is asked for by 10 and more, on both sides -/
theorem ask4 {σ : Mem} {S : FS} (h : CR σ 40 S) {α : Type} (a : Int32) (x y : Option α) : (if a < 10 then x else bn1 (fX0_has 40 (a - 10) σ) fun r1 => if r1 = 0 then x else y) = if 10 ≤ a.toInt ∧ a.toInt < 10 + (sN S : Int) then y else x := by
  by_cases q : a < 10
  · have := (lt10 a).mp q
    rw [if_pos q, if_neg (by omega)]
  · have q' : ¬ a.toInt < 10 := fun z => q ((lt10 a).mpr z)
    rw [if_neg q, has_ok h, bn1_s, sub10 (by omega)]
    by_cases w : 10 ≤ a.toInt ∧ a.toInt < 10 + (sN S : Int)
    · rw [if_pos w, if_pos (show 0 ≤ a.toInt - 10 ∧ a.toInt - 10 < (sN S : Int) by omega), if_neg (by decide)]
    · rw [if_neg w, if_neg (show ¬ (0 ≤ a.toInt - 10 ∧ a.toInt - 10 < (sN S : Int)) by omega), if_pos rfl]
theorem ask5 {τ : Mem} {S : FS} (h : MR τ S) {α : Type} (a : Int32) (x y : Option α) : (bn1 (fX5_in a.toInt64 10 17 τ) fun r10 => if r10 = 0 then x else bn1 (fX5_isOne (a - 10) τ) fun r11 => if r11 = 0 then x else y) = if 10 ≤ a.toInt ∧ a.toInt < 10 + (sN S : Int) then y else x := by
  have hn := h.n
  rw [in_I τ a 10 17 (p := 10) (q := 17) rfl rfl, bn1_s]
  by_cases q : 10 ≤ a.toInt ∧ a.toInt ≤ 17
  · rw [if_pos q, if_neg (show ¬ (1 : Int32) = 0 by decide), isOne5 h, bn1_s, sub10 q.1]
    by_cases w : 10 ≤ a.toInt ∧ a.toInt < 10 + (sN S : Int)
    · rw [if_pos w, if_pos (show 0 ≤ a.toInt - 10 ∧ a.toInt - 10 < (sN S : Int) by omega), if_neg (by decide)]
    · rw [if_neg w, if_neg (show ¬ (0 ≤ a.toInt - 10 ∧ a.toInt - 10 < (sN S : Int)) by omega), if_pos rfl]
  · rw [if_neg q, if_pos rfl, if_neg (by omega)]
theorem of_ask {a : Int32} {n : Nat} (h : 10 ≤ a.toInt ∧ a.toInt < 10 + (n : Int)) (hn : n ≤ 8) : ∃ d, d < n ∧ a = nI (10 + d) ∧ a - 10 = nI d := by
  obtain ⟨k, h1, h2, rfl⟩ := of_rng (a := a) (q := 9 + (n : Int)) (by omega)
  rw [nI_toInt (by omega)] at h
  refine ⟨k - 10, by omega, by rw [show 10 + (k - 10) = k by omega], ?_⟩
  exact pk_sub (a := k) (b := 10) (by omega)
theorem st_where : St_where Rel := by
  intro a1
  refine simL_st (fun σ τ S h => ?_)
  have hc := h.c; have hm := h.m; have hn := hc.n
  by_cases q0 : a1 = 0
  · subst q0
    obtain ⟨x, e1, l1⟩ := heapBits_ok hc
    obtain ⟨r, e2, l2, t2⟩ := mwhere_loop τ 0 (occS S) (fun i hi ih x => by
      have hw : fX5_whoIn (nI i) τ = some (nI (whoS S (some i))) := whoIn_ok hm (o := some i) (fun c q => by cases q; exact hi)
      have hlt : whoS S (some i) < 256 := mkb_256 _ hn
      unfold fX5_where_L58
      dsimp only
      rw [if_neg (show ¬ (36 : Int32) ≤ nI i from nI_ge (b := 36) (by omega) (by omega)), if_pos rfl, hw, bn1_s, if_eq_lit (L := 0) (k := 0) rfl (by omega) (by decide), nI_1]
      unfold occS
      by_cases z : whoS S (some i) = 0
      · rw [if_pos z, if_neg (by simp [z])]
      · rw [if_neg z, if_pos (by simp [z])])
    refine ⟨x, σ, τ, ?_, ?_, hc, hm, PC.rf, PM.rf⟩
    · unfold fX4_where
      rw [if_pos rfl, e1, bn1_s]
    · unfold fX5_where fX5_where_b39
      rw [in_I τ 0 0 1 (p := 0) (q := 1) rfl rfl, bn1_s, if_neg (by decide), if_pos (by decide), e2]
      have : r.1 = x := l2.eq (l1.congr (fun c _ => by
        by_cases z : c < 36
        · rw [decide_eq_true z, Bool.true_and]
        · rw [occ_out hc.1 (by omega), Bool.and_false]))
      rw [← this, ← t2]
  · by_cases q1 : a1 = 1
    · subst q1
      obtain ⟨r, e2, l2, t2⟩ := mwhere_loop τ 1 (sC S) (fun i hi ih x => by
        unfold fX5_where_L58
        dsimp only
        rw [if_neg (show ¬ (36 : Int32) ≤ nI i from nI_ge (b := 36) (by omega) (by omega)), if_neg (by decide), gd_of (inB_nI hi (by decide)), rd_nI (by omega), hm.2.2.2.2.2.1 i hi, nI_1]
        by_cases z : sC S i = true
        · rw [if_pos z, if_pos rfl, if_pos z]
        · rw [if_neg z, if_neg (by decide), if_neg z])
      refine ⟨σ.2 40 3, σ, τ, ?_, ?_, hc, hm, PC.rf, PM.rf⟩
      · unfold fX4_where
        rw [if_neg (by decide), if_pos rfl]
      · unfold fX5_where fX5_where_b39
        rw [in_I τ 1 0 1 (p := 0) (q := 1) rfl rfl, bn1_s, if_neg (by decide), if_pos (by decide), e2]
        have : r.1 = σ.2 40 3 := l2.eq hc.lb
        rw [← this, ← t2]
    · have hC : fX4_where a1 σ = if 10 ≤ a1.toInt ∧ a1.toInt < 10 + (sN S : Int) then bnd (fX4_reached (a1 - 10) σ) fun r2 σ2 => some (r2, σ2) else some (-4611686018427387904, σ) := by
        unfold fX4_where
        rw [if_neg q0, if_neg q1, ask4 hc]
      have hM : fX5_where a1 τ = if 10 ≤ a1.toInt ∧ a1.toInt < 10 + (sN S : Int) then fX5_where_b39 a1 τ else some (-4611686018427387904, τ) := by
        unfold fX5_where
        rw [in_I τ a1 0 1 (p := 0) (q := 1) rfl rfl, bn1_s, if_neg (show ¬ (0 ≤ a1.toInt ∧ a1.toInt ≤ 1) from fun z => by
          rcases (show a1.toInt = 0 ∨ a1.toInt = 1 by omega) with y | y
          · exact q0 (Int32.toInt_inj.mp (by rw [y]; rfl))
          · exact q1 (Int32.toInt_inj.mp (by rw [y]; rfl))), if_pos rfl, ask5 hm]
      by_cases q : 10 ≤ a1.toInt ∧ a1.toInt < 10 + (sN S : Int)
      · rw [if_pos q] at hC hM
        obtain ⟨d, hd, e10, e⟩ := of_ask q hn
        rw [e] at hC
        unfold fX5_where_b39 at hM
        rw [e, if_neg (show ¬ a1 ≤ 1 from fun z => by have := Int32.le_iff_toInt_le.mp z; rw [show (1 : Int32).toInt = 1 from rfl] at this; omega)] at hM
        by_cases hin : sA S d = none
        · refine ⟨0, ?_⟩
          obtain ⟨τ1, e1, m1, l1, p1⟩ := mas hm
          refine ⟨σ, τ1, ?_, ?_, hc, m1, PC.rf, p1⟩
          · rw [hC]
            unfold fX4_reached
            rw [isIn_ok hc hd, if_pos hin, bn1_s, if_pos rfl, bnd_s]
          · rw [hM]
            unfold fX5_comes
            rw [e1, bn1_s]
            have : loopN (fX5_comes_L9 (nI d)) 1000 (τ1, 0, 0) = some (0, τ1) := by
              show fX5_comes_L9 (nI d) (loopN (fX5_comes_L9 (nI d)) 999) (τ1, 0, 0) = _
              unfold fX5_comes_L9
              dsimp only
              rw [if_neg (by decide), gd_of (inB_nI (by omega) (by decide)), rd_nI (by omega), (m1.2.2.2.2.1 d hd).2.2, hin, if_pos (show enc none = -1 from rfl)]
            rw [this, bnd_s]
        · obtain ⟨r, e1, e2, e3, e4⟩ := reached_ok hc hd hin
          obtain ⟨r', f1, f2, f3, f4⟩ := comes_ok hm hd hin
          refine ⟨r.1, r.2, r'.2, ?_, ?_, e3, f3, e4, f4⟩
          · rw [hC, e1]; rfl
          · rw [hM, f1, e2.eq f2]; rfl
      · rw [if_neg q] at hC hM
        exact ⟨_, σ, τ, hC, hM, hc, hm, PC.rf, PM.rf⟩
/-! gather -/
def gv (o : Option Nat) : Int32 := match o with
  | none => -1
  | some k => nI (100 * (k / 24 + 1) + k % 24 + 1)
def gat (S : FS) (m : Nat) : Int32 := if gthS S m then 0 else match fs (fun s => gthS (strokeS S s) m) 24 with
  | some s => nI (s + 1)
  | none => gv (fs (fun k => gthS (strokeS (strokeS S (k / 24)) (k % 24)) m) 576)
theorem lastGath_ok {σ : Mem} {S : FS} {m a : Nat} (ha : a < 24) (h : CR σ 40 S) (h2 : CR σ 52 (strokeS S a)) (h0 : 0 < m) (hm : m < 2 ^ sN S) : ∃ r, fX4_lastGathering (nI m) σ = some r ∧ (CR r.2 40 S ∧ PC σ r.2 ∧ ((∃ b, b < 24 ∧ gthS (strokeS (strokeS S a) b) m = true ∧ (∀ i, i < b → gthS (strokeS (strokeS S a) i) m = false) ∧ r.1 = nI b) ∨ ((∀ i, i < 24 → gthS (strokeS (strokeS S a) i) m = false) ∧ r.1 = -1))) := by
  unfold fX4_lastGathering
  refine loop_inx (b := fX4_lastGathering_L2 (nI m)) (fun i v => v.2 = nI i ∧ (∀ j, j < i → gthS (strokeS (strokeS S a) j) m = false) ∧ CR v.1 40 S ∧ CR v.1 52 (strokeS S a) ∧ PC σ v.1) _ 24 ?_ ?_ 1000 0 (σ, 0) (Nat.zero_le _) (by omega) ⟨rfl, fun j hj => by omega, h, h2, PC.rf⟩
  · rintro i ⟨σi, y⟩ hi ⟨hy, hf, c40, c52, hp⟩
    dsimp only at hy hf c40 c52 hp
    subst hy
    obtain ⟨F, e1, f58, fr⟩ := become_ok fl58 fl52 (by decide) c52
    obtain ⟨r, e2, _, g58, gr⟩ := brush_ok fl58 f58 hi
    have frt := fr.tr gr
    have d40 : CR r.2 40 S := c40.fr fl40 fl58 (by decide) frt
    have d52 : CR r.2 52 (strokeS S a) := c52.fr fl52 fl58 (by decide) frt
    have dp : PC σ r.2 := hp.tr (frt.pc (by omega))
    have body : ∀ ih, fX4_lastGathering_L2 (nI m) ih (σi, nI i) = if gthS (strokeS (strokeS S a) i) m then some (nI i, r.2) else ih (r.2, nI (i + 1)) := fun ih => by
      unfold fX4_lastGathering_L2
      dsimp only
      rw [if_neg (show ¬ (24 : Int32) ≤ nI i from nI_ge (b := 24) (by omega) (by omega)), e1, bn1_s, e2]
      show bn1 (fX0_areGathered 58 (nI m) r.2) _ = _
      rw [areGathered_ok g58 h0 hm, bn1_s, nI_1]
      by_cases q : gthS (strokeS (strokeS S a) i) m = true
      · rw [if_pos q, if_neg (by decide), if_pos q]
      · rw [if_neg q, if_pos rfl, if_neg q]
    by_cases q : gthS (strokeS (strokeS S a) i) m = true
    · right
      exact ⟨(nI i, r.2), fun ih => by rw [body, if_pos q], d40, dp, Or.inl ⟨i, hi, q, hf, rfl⟩⟩
    · left
      refine ⟨(r.2, nI (i + 1)), fun ih => by rw [body, if_neg q], rfl, fun j hj => ?_, d40, d52, dp⟩
      by_cases z : j = i
      · subst z; simpa using q
      · exact hf j (by omega)
  · rintro ⟨σi, y⟩ ⟨hy, hf, c40, c52, hp⟩
    dsimp only at hy hf c40 c52 hp
    subst hy
    refine ⟨(-1, σi), fun ih => ?_, c40, hp, Or.inr ⟨hf, rfl⟩⟩
    unfold fX4_lastGathering_L2
    dsimp only
    rw [if_pos (show (24 : Int32) ≤ nI 24 by decide)]
theorem gath2_ok {σ : Mem} {S : FS} {m : Nat} (h : CR σ 40 S) (h0 : 0 < m) (hm : m < 2 ^ sN S) : ∃ r, loopN (fX4_gathering_L49 (nI m)) 1000 (σ, 0) = some r ∧ (r.1 = gv (fs (fun k => gthS (strokeS (strokeS S (k / 24)) (k % 24)) m) 576) ∧ CR r.2 40 S ∧ PC σ r.2) := by
  refine loop_inx (b := fX4_gathering_L49 (nI m)) (fun i v => v.2 = nI i ∧ (∀ k, k < 24 * i → gthS (strokeS (strokeS S (k / 24)) (k % 24)) m = false) ∧ CR v.1 40 S ∧ PC σ v.1) _ 24 ?_ ?_ 1000 0 (σ, 0) (Nat.zero_le _) (by omega) ⟨rfl, fun j hj => by omega, h, PC.rf⟩
  · rintro i ⟨σi, y⟩ hi ⟨hy, hf, c40, hp⟩
    dsimp only at hy hf c40 hp
    subst hy
    obtain ⟨F, e, c52, c40', p⟩ := ctry c40 hi
    obtain ⟨r, e2, d40, dp, dr⟩ := lastGath_ok hi c40' c52 h0 hm
    have body : ∀ ih, fX4_gathering_L49 (nI m) ih (σi, nI i) = if r.1 = -1 then ih (r.2, nI (i + 1)) else fX4_gathering_b71 (nI m) r.2 (nI i) r.1 := fun ih => by
      unfold fX4_gathering_L49
      dsimp only
      rw [if_neg (show ¬ (24 : Int32) ≤ nI i from nI_ge (b := 24) (by omega) (by omega)), e, bn1_s, e2, nI_1]
      rfl
    rcases dr with ⟨b, hb, h1, h2, h3⟩ | ⟨h1, h2⟩
    · right
      have hne : ¬ r.1 = -1 := fun z => by rw [h3] at z; have := congrArg Int32.toInt z; rw [nI_toInt (by omega)] at this; simp at this
      refine ⟨(((100 * (nI i + 1)) + r.1) + 1, r.2), fun ih => by rw [body, if_neg hne]; rfl, ?_, d40, (hp.tr p).tr dp⟩
      have : fs (fun k => gthS (strokeS (strokeS S (k / 24)) (k % 24)) m) 576 = some (24 * i + b) := fs_some (by
        rw [show (24 * i + b) / 24 = i by omega, show (24 * i + b) % 24 = b by omega]; exact h1) (fun k hk => by
        by_cases z : k < 24 * i
        · exact hf k z
        · rw [show k / 24 = i by omega]
          exact h2 (k % 24) (by omega)) 576 (by omega)
      rw [this, h3, nI_1, show (100 : Int32) * nI (i + 1) = nI (100 * (i + 1)) from pk_mul 100 _, nI_add, nI_1]
      unfold gv
      dsimp only
      rw [show (24 * i + b) / 24 = i by omega, show (24 * i + b) % 24 = b by omega]
    · left
      refine ⟨(r.2, nI (i + 1)), fun ih => by rw [body, if_pos h2], rfl, fun k hk => ?_, d40, (hp.tr p).tr dp⟩
      by_cases z : k < 24 * i
      · exact hf k z
      · rw [show k / 24 = i by omega]
        exact h1 (k % 24) (by omega)
  · rintro ⟨σi, y⟩ ⟨hy, hf, c40, hp⟩
    dsimp only at hy hf c40 hp
    subst hy
    refine ⟨(-1, σi), fun ih => ?_, by rw [fs_none 576 (fun k hk => hf k (by omega))]; rfl, c40, hp⟩
    unfold fX4_gathering_L49
    dsimp only
    rw [if_pos (show (24 : Int32) ≤ nI 24 by decide)]
theorem gathering_ok {σ : Mem} {S : FS} {m : Nat} (h : CR σ 40 S) (h0 : 0 < m) (hm : m < 2 ^ sN S) : ∃ r, fX4_gathering (nI m) σ = some r ∧ (r.1 = gat S m ∧ CR r.2 40 S ∧ PC σ r.2) := by
  unfold fX4_gathering
  rw [areGathered_ok h h0 hm, bn1_s]
  by_cases g : gthS S m = true
  · rw [if_pos g, if_neg (by decide)]
    exact ⟨_, rfl, by unfold gat; rw [if_pos g], h, PC.rf⟩
  · rw [if_neg g, if_pos rfl]
    refine loop_inx (b := fX4_gathering_L15 (nI m)) (fun i v => v.2 = nI i ∧ (∀ k, k < i → gthS (strokeS S k) m = false) ∧ CR v.1 40 S ∧ PC σ v.1) _ 24 ?_ ?_ 1000 0 (σ, 0) (Nat.zero_le _) (by omega) ⟨rfl, fun j hj => by omega, h, PC.rf⟩
    · rintro i ⟨σi, y⟩ hi ⟨hy, hf, c40, hp⟩
      dsimp only at hy hf c40 hp
      subst hy
      obtain ⟨F, e, c52, c40', p⟩ := ctry c40 hi
      have body : ∀ ih, fX4_gathering_L15 (nI m) ih (σi, nI i) = if gthS (strokeS S i) m then some (nI (i + 1), F) else ih (F, nI (i + 1)) := fun ih => by
        unfold fX4_gathering_L15
        dsimp only
        rw [if_neg (show ¬ (24 : Int32) ≤ nI i from nI_ge (b := 24) (by omega) (by omega)), e, bn1_s, areGathered_ok c52 h0 hm, bn1_s, nI_1]
        by_cases q : gthS (strokeS S i) m = true
        · rw [if_pos q, if_neg (by decide), if_pos q]
        · rw [if_neg q, if_pos rfl, if_neg q]
      by_cases q : gthS (strokeS S i) m = true
      · right
        refine ⟨_, fun ih => by rw [body, if_pos q], ?_, c40', hp.tr p⟩
        unfold gat
        rw [if_neg g, fs_some (f := fun s => gthS (strokeS S s) m) q hf 24 hi]
      · left
        refine ⟨_, fun ih => by rw [body, if_neg q], rfl, fun k hk => ?_, c40', hp.tr p⟩
        by_cases z : k = i
        · subst z; simpa using q
        · exact hf k (by omega)
    · rintro ⟨σi, y⟩ ⟨hy, hf, c40, hp⟩
      dsimp only at hy hf c40 hp
      subst hy
      obtain ⟨r, e1, e2, e3, e4⟩ := gath2_ok c40 h0 hm
      refine ⟨r, fun ih => ?_, ?_, e3, hp.tr e4⟩
      · unfold fX4_gathering_L15
        dsimp only
        rw [if_pos (show (24 : Int32) ≤ nI 24 by decide), e1]
      · rw [e2]
        unfold gat
        rw [if_neg g, fs_none (f := fun s => gthS (strokeS S s) m) 24 hf]
theorem mgath2_ok {τ0 τ : Mem} {S : FS} {m : Nat} (h0 : MR τ0 S) (h : MR τ S) (l : LA τ0 τ) (hp : PM τ0 τ) (hm : m < 2 ^ sN S) : ∃ r, loopN (fX5_gathered_L63 (nI m)) 1000 (τ, -1, 0) = some r ∧ (r.1 = gv (fs (fun k => gthS (strokeS (strokeS S (k / 24)) (k % 24)) m) 576) ∧ MR r.2 S ∧ PM τ0 r.2) := by
  have gvne : ∀ k, k < 576 → ¬ gv (some k) = -1 := fun k hk z => by
    unfold gv at z
    have := congrArg Int32.toInt z
    rw [nI_toInt (by omega)] at this
    simp at this
    omega
  refine loop_inx (b := fX5_gathered_L63 (nI m)) (fun i v => v.2.2 = nI i ∧ v.2.1 = gv (fs (fun k => gthS (strokeS (strokeS S (k / 24)) (k % 24)) m) i) ∧ MR v.1 S ∧ LA τ0 v.1 ∧ PM τ0 v.1) _ 576 ?_ ?_ 1000 0 (τ, -1, 0) (Nat.zero_le _) (by omega) ⟨rfl, rfl, h, l, hp⟩
  · rintro i ⟨τi, x, y⟩ hi ⟨hy, hx, hm1, hl, hp⟩
    dsimp only at hy hx hm1 hl hp
    subst hy
    by_cases q : ∃ k, k < i ∧ gthS (strokeS (strokeS S (k / 24)) (k % 24)) m = true
    · right
      obtain ⟨k, ⟨hk, hq⟩, hl2⟩ := pk_least (fun k => k < i ∧ gthS (strokeS (strokeS S (k / 24)) (k % 24)) m = true) q
      have hf : ∀ j, j < k → gthS (strokeS (strokeS S (j / 24)) (j % 24)) m = false := fun j hj => by
        have := hl2 j hj
        by_cases z : gthS (strokeS (strokeS S (j / 24)) (j % 24)) m = true
        · exact absurd ⟨by omega, z⟩ this
        · simpa using z
      rw [fs_some (f := fun k => gthS (strokeS (strokeS S (k / 24)) (k % 24)) m) hq hf i hk] at hx
      refine ⟨(x, τi), fun ih => ?_, ?_, hm1, hp⟩
      · unfold fX5_gathered_L63
        dsimp only
        rw [if_neg (show ¬ (576 : Int32) ≤ nI i from nI_ge (b := 576) (by omega) (by omega)), hx, if_neg (gvne k (by omega))]
      · rw [fs_some (f := fun k => gthS (strokeS (strokeS S (k / 24)) (k % 24)) m) hq hf 576 (by omega)]
        exact hx
    · left
      have hf : ∀ j, j < i → gthS (strokeS (strokeS S (j / 24)) (j % 24)) m = false := fun j hj => by
        by_cases z : gthS (strokeS (strokeS S (j / 24)) (j % 24)) m = true
        · exact absurd ⟨j, hj, z⟩ q
        · simpa using z
      rw [fs_none (f := fun k => gthS (strokeS (strokeS S (k / 24)) (k % 24)) m) i hf] at hx
      obtain ⟨r1, τ1, e1, m1, l1, p1⟩ := mtry hm1 hl (s := i / 24) (by omega)
      obtain ⟨r2, τ2, e2, m2, l2, p2⟩ := mtry m1 l1 (s := i % 24) (by omega)
      obtain ⟨τ3, e3, m3, l3, p3⟩ := mbk h0 l2
      have ed : nI i / 24 = nI (i / 24) := pk_div (d := 24) (by omega) (by decide) (by decide)
      have em : nI i - nI i / 24 * 24 = nI (i % 24) := pk_rem (d := 24) (by omega) (by decide) (by decide)
      have body : ∀ ih, fX5_gathered_L63 (nI m) ih (τi, x, nI i) = if gthS (strokeS (strokeS S (i / 24)) (i % 24)) m then ih (τ3, nI (100 * (i / 24 + 1) + i % 24 + 1), nI (i + 1)) else ih (τ3, -1, nI (i + 1)) := fun ih => by
        unfold fX5_gathered_L63
        dsimp only
        rw [if_neg (show ¬ (576 : Int32) ≤ nI i from nI_ge (b := 576) (by omega) (by omega)), hx, if_pos (show gv none = -1 from rfl), em, ed, e1, bnd_s, e2, bnd_s, areTogether_ok m2 hm, bn1_s, e3, bn1_s, bn1_s, nI_1, nI_1, show (100 : Int32) * nI (i / 24 + 1) = nI (100 * (i / 24 + 1)) from pk_mul 100 _, nI_add, nI_1]
        by_cases z : gthS (strokeS (strokeS S (i / 24)) (i % 24)) m = true
        · rw [if_pos z, if_neg (by decide), if_pos z]
        · rw [if_neg z, if_pos rfl, if_neg z]
      by_cases z : gthS (strokeS (strokeS S (i / 24)) (i % 24)) m = true
      · refine ⟨_, fun ih => by rw [body, if_pos z], rfl, ?_, m3, l3, p3⟩
        rw [fs_some (f := fun k => gthS (strokeS (strokeS S (k / 24)) (k % 24)) m) z hf (i + 1) (by omega)]
        rfl
      · refine ⟨_, fun ih => by rw [body, if_neg z], rfl, ?_, m3, l3, p3⟩
        rw [fs_none (f := fun k => gthS (strokeS (strokeS S (k / 24)) (k % 24)) m) (i + 1) (fun j hj => by
          by_cases w : j = i
          · subst w; simpa using z
          · exact hf j (by omega))]
        rfl
  · rintro ⟨τi, x, y⟩ ⟨hy, hx, hm1, hl, hp⟩
    dsimp only at hy hx hm1 hl hp
    subst hy
    refine ⟨(x, τi), fun ih => ?_, hx, hm1, hp⟩
    unfold fX5_gathered_L63
    dsimp only
    rw [if_pos (show (576 : Int32) ≤ nI 576 by decide)]
theorem gathered_ok {τ : Mem} {S : FS} {m : Nat} (h : MR τ S) (hm : m < 2 ^ sN S) : ∃ r, fX5_gathered (nI m) τ = some r ∧ (r.1 = gat S m ∧ MR r.2 S ∧ PM τ r.2) := by
  unfold fX5_gathered
  rw [areTogether_ok h hm, bn1_s]
  by_cases g : gthS S m = true
  · rw [if_pos g, if_neg (by decide)]
    exact ⟨_, rfl, by unfold gat; rw [if_pos g], h, PM.rf⟩
  · rw [if_neg g, if_pos rfl]
    obtain ⟨τ1, e1, m1, l1, p1⟩ := mas h
    rw [e1, bn1_s]
    have sne : ∀ s, s < 24 → ¬ nI (s + 1) = -1 := fun s hs z => by
      have := congrArg Int32.toInt z
      rw [nI_toInt (by omega)] at this
      simp at this
      omega
    refine loop_inx (b := fX5_gathered_L18 (nI m)) (fun i v => v.2.2 = nI i ∧ v.2.1 = (match fs (fun s => gthS (strokeS S s) m) i with | some s => nI (s + 1) | none => -1) ∧ MR v.1 S ∧ LA τ v.1 ∧ PM τ v.1) _ 24 ?_ ?_ 1000 0 (τ1, -1, 0) (Nat.zero_le _) (by omega) ⟨rfl, rfl, m1, l1, p1⟩
    · rintro i ⟨τi, x, y⟩ hi ⟨hy, hx, hm1, hl, hp⟩
      dsimp only at hy hx hm1 hl hp
      subst hy
      by_cases q : ∃ k, k < i ∧ gthS (strokeS S k) m = true
      · right
        obtain ⟨k, ⟨hk, hq⟩, hl2⟩ := pk_least (fun k => k < i ∧ gthS (strokeS S k) m = true) q
        have hf : ∀ j, j < k → gthS (strokeS S j) m = false := fun j hj => by
          have := hl2 j hj
          by_cases z : gthS (strokeS S j) m = true
          · exact absurd ⟨by omega, z⟩ this
          · simpa using z
        rw [fs_some (f := fun s => gthS (strokeS S s) m) hq hf i hk] at hx
        have stop : loopN (fX5_gathered_L63 (nI m)) 1000 (τi, x, 0) = some (x, τi) := by
          show fX5_gathered_L63 (nI m) (loopN (fX5_gathered_L63 (nI m)) 999) (τi, x, 0) = _
          generalize loopN (fX5_gathered_L63 (nI m)) 999 = K
          unfold fX5_gathered_L63
          dsimp only
          rw [if_neg (by decide), hx, if_neg (sne k (by omega))]
        refine ⟨(x, τi), fun ih => ?_, ?_, hm1, hp⟩
        · unfold fX5_gathered_L18
          dsimp only
          rw [if_neg (show ¬ (24 : Int32) ≤ nI i from nI_ge (b := 24) (by omega) (by omega)), stop, hx, if_neg (sne k (by omega))]
        · unfold gat
          rw [if_neg g, fs_some (f := fun s => gthS (strokeS S s) m) hq hf 24 (by omega)]
          exact hx
      · left
        have hf : ∀ j, j < i → gthS (strokeS S j) m = false := fun j hj => by
          by_cases z : gthS (strokeS S j) m = true
          · exact absurd ⟨j, hj, z⟩ q
          · simpa using z
        rw [fs_none (f := fun s => gthS (strokeS S s) m) i hf] at hx
        dsimp only at hx
        obtain ⟨r1, τ2, e2, m2, l2, p2⟩ := mtry hm1 hl hi
        obtain ⟨τ3, e3, m3, l3, p3⟩ := mbk h l2
        have body : ∀ ih, fX5_gathered_L18 (nI m) ih (τi, x, nI i) = if gthS (strokeS S i) m then ih (τ3, nI (i + 1), nI (i + 1)) else ih (τ3, -1, nI (i + 1)) := fun ih => by
          unfold fX5_gathered_L18
          dsimp only
          rw [if_neg (show ¬ (24 : Int32) ≤ nI i from nI_ge (b := 24) (by omega) (by omega)), hx, if_pos rfl, e2, bnd_s, areTogether_ok m2 hm, bn1_s, e3, bn1_s, bn1_s, nI_1]
          by_cases z : gthS (strokeS S i) m = true
          · rw [if_pos z, if_neg (by decide), if_pos z]
          · rw [if_neg z, if_pos rfl, if_neg z]
        by_cases z : gthS (strokeS S i) m = true
        · refine ⟨_, fun ih => by rw [body, if_pos z], rfl, ?_, m3, l3, p3⟩
          rw [fs_some (f := fun s => gthS (strokeS S s) m) z hf (i + 1) (by omega)]
        · refine ⟨_, fun ih => by rw [body, if_neg z], rfl, ?_, m3, l3, p3⟩
          rw [fs_none (f := fun s => gthS (strokeS S s) m) (i + 1) (fun j hj => by
            by_cases w : j = i
            · subst w; simpa using z
            · exact hf j (by omega))]
    · rintro ⟨τi, x, y⟩ ⟨hy, hx, hm1, hl, hp⟩
      dsimp only at hy hx hm1 hl hp
      subst hy
      cases hfs : fs (fun s => gthS (strokeS S s) m) 24 with
      | none =>
        rw [hfs] at hx
        dsimp only at hx
        obtain ⟨r, f1, f2, f3, f4⟩ := mgath2_ok h hm1 hl hp hm
        refine ⟨r, fun ih => ?_, ?_, f3, f4⟩
        · unfold fX5_gathered_L18
          dsimp only
          rw [if_pos (show (24 : Int32) ≤ nI 24 by decide), hx, f1]
        · unfold gat
          rw [if_neg g, hfs]
          exact f2
      | some s =>
        rw [hfs] at hx
        dsimp only at hx
        have hs24 : s < 24 := by
          rcases Nat.lt_or_ge s 24 with z | z
          · exact z
          · exfalso
            have key : ∀ n, fs (fun s => gthS (strokeS S s) m) n = some s → s < n := fun n => by
              induction n with
              | zero => intro w; cases w
              | succ n ihn =>
                intro w
                simp only [fs] at w
                cases hn : fs (fun s => gthS (strokeS S s) m) n with
                | some k => rw [hn] at w; cases w; have := ihn hn; omega
                | none =>
                  rw [hn] at w
                  dsimp only at w
                  split at w
                  · cases w; omega
                  · cases w
            have := key 24 hfs
            omega
        have stop : loopN (fX5_gathered_L63 (nI m)) 1000 (τi, x, 0) = some (x, τi) := by
          show fX5_gathered_L63 (nI m) (loopN (fX5_gathered_L63 (nI m)) 999) (τi, x, 0) = _
          generalize loopN (fX5_gathered_L63 (nI m)) 999 = K
          unfold fX5_gathered_L63
          dsimp only
          rw [if_neg (by decide), hx, if_neg (sne s hs24)]
        refine ⟨(x, τi), fun ih => ?_, ?_, hm1, hp⟩
        · unfold fX5_gathered_L18
          dsimp only
          rw [if_pos (show (24 : Int32) ≤ nI 24 by decide), stop]
        · unfold gat
          rw [if_neg g, hfs]
          exact hx
theorem pow_8 : ∀ n, n < 9 → ((1 : Int32) <<< (nI n &&& 31) - 1).toInt = ((2 ^ n : Nat) : Int) - 1 := by decide +kernel
theorem gat_rng (S : FS) (m : Nat) : gat S m = -1 ∨ ∃ k, k < 3000 ∧ gat S m = nI k := by
  unfold gat
  split
  · exact Or.inr ⟨0, by omega, rfl⟩
  · split
    · rename_i s hs
      have key : ∀ n, fs (fun s => gthS (strokeS S s) m) n = some s → s < n := fun n => by
        induction n with
        | zero => intro w; cases w
        | succ n ihn =>
          intro w
          simp only [fs] at w
          cases hn : fs (fun s => gthS (strokeS S s) m) n with
          | some k => rw [hn] at w; cases w; have := ihn hn; omega
          | none =>
            rw [hn] at w
            dsimp only at w
            split at w
            · cases w; omega
            · cases w
      have := key 24 hs
      exact Or.inr ⟨s + 1, by omega, rfl⟩
    · generalize hg : fs (fun k => gthS (strokeS (strokeS S (k / 24)) (k % 24)) m) 576 = o
      cases o with
      | none => exact Or.inl rfl
      | some k =>
        have key : ∀ n, fs (fun k => gthS (strokeS (strokeS S (k / 24)) (k % 24)) m) n = some k → k < n := fun n => by
          induction n with
          | zero => intro w; cases w
          | succ n ihn =>
            intro w
            simp only [fs] at w
            cases hn : fs (fun k => gthS (strokeS (strokeS S (k / 24)) (k % 24)) m) n with
            | some j => rw [hn] at w; cases w; have := ihn hn; omega
            | none =>
              rw [hn] at w
              dsimp only at w
              split at w
              · cases w; omega
              · cases w
        have := key 576 hg
        exact Or.inr ⟨100 * (k / 24 + 1) + k % 24 + 1, by omega, rfl⟩
theorem st_gather : St_gather Rel := by
  intro a1 a2
  refine simI_st (fun σ τ S h => ?_)
  have hc := h.c; have hm := h.m; have hn := hc.n
  unfold fX4_gather fX5_gather
  rw [hc.2.1, hm.2.1, within_I σ a1 1 ((1 : Int32) <<< (nI (sN S) &&& 31) - 1) (p := 1) (q := ((2 ^ sN S : Nat) : Int) - 1) rfl (pow_8 _ (by omega)), in_I τ a1 1 (((1 : Int32) <<< (nI (sN S) &&& 31) - 1).toInt64) (p := 1) (q := ((2 ^ sN S : Nat) : Int) - 1) rfl (by rw [Int32.toInt_toInt64]; exact pow_8 _ (by omega)), bn1_s, bn1_s, within_I σ a2 0 1 (p := 0) (q := 1) rfl rfl, in_I τ a2 0 1 (p := 0) (q := 1) rfl rfl, bn1_s, bn1_s]
  by_cases q1 : 1 ≤ a1.toInt ∧ a1.toInt ≤ ((2 ^ sN S : Nat) : Int) - 1
  · obtain ⟨m, hm1, hm2, rfl⟩ := of_rng (a := a1) (q := ((2 ^ sN S : Nat) : Int) - 1) ⟨by omega, q1.2⟩
    have hmlt : m < 2 ^ sN S := by omega
    have hm0 : 0 < m := by have := q1.1; rw [nI_toInt (by omega)] at this; omega
    rw [if_pos q1, if_neg (show ¬ (1 : Int32) = 0 by decide), if_neg (show ¬ (1 : Int32) = 0 by decide)]
    by_cases q2 : 0 ≤ a2.toInt ∧ a2.toInt ≤ 1
    · rw [if_pos q2, if_neg (show ¬ (1 : Int32) = 0 by decide), if_neg (show ¬ (1 : Int32) = 0 by decide)]
      obtain ⟨r, e1, e2, e3, e4⟩ := gathering_ok hc hm0 hmlt
      obtain ⟨r', f1, f2, f3, f4⟩ := gathered_ok hm hmlt
      obtain ⟨x, σ'⟩ := r
      obtain ⟨x', τ'⟩ := r'
      dsimp only at e2 e3 e4 f2 f3 f4
      subst e2 f2
      rw [e1, f1, bnd_s, bnd_s]
      by_cases z : a2 = 1
      · rw [if_pos z, if_pos z]
        by_cases w : gat S m = -1
        · rw [if_pos w]; exact ⟨_, _, _, rfl, rfl, e3, f3, e4, f4⟩
        · rw [if_neg w]; exact ⟨_, _, _, rfl, rfl, e3, f3, e4, f4⟩
      · rw [if_neg z, if_neg z]
        rcases gat_rng S m with w | ⟨k, hk, w⟩
        · rw [w, if_neg (by decide), if_pos rfl]; exact ⟨_, _, _, rfl, rfl, e3, f3, e4, f4⟩
        · rw [w, if_neg (show ¬ nI k = -1 from fun z => by have := congrArg Int32.toInt z; rw [nI_toInt (by omega)] at this; simp at this)]
          rcases Nat.eq_zero_or_pos k with y | y
          · subst y
            rw [if_neg (by decide), if_pos (by decide)]; exact ⟨_, _, _, rfl, rfl, e3, f3, e4, f4⟩
          · rw [if_pos (show 0 < nI k from nI_lt (a := 0) y (by omega)), if_neg (show ¬ nI k = 0 from nI_ne0 y (by omega))]
            by_cases v : (100 : Int32) ≤ nI k
            · rw [if_pos v, if_pos v]; exact ⟨_, _, _, rfl, rfl, e3, f3, e4, f4⟩
            · rw [if_neg v, if_neg v]; exact ⟨_, _, _, rfl, rfl, e3, f3, e4, f4⟩
    · rw [if_neg q2, if_pos rfl, if_pos rfl]
      exact ⟨-2, σ, τ, rfl, rfl, hc, hm, PC.rf, PM.rf⟩
  · rw [if_neg q1, if_pos rfl, if_pos rfl]
    exact ⟨-2, σ, τ, rfl, rfl, hc, hm, PC.rf, PM.rf⟩
