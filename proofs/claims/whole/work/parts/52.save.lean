/-! ===== save ===== -/
def oS (S : FS) (s : Nat) (o : Option Nat) : Nat := match o with
  | none => outS (strokeS S s)
  | some c => outS (strokeS (setC1 S c true) s)
theorem oS_le {S : FS} (h : sN S ≤ 8) (s : Nat) (o : Option Nat) : oS S s o ≤ 8 := by
  cases o with
  | none => have := outS_le (strokeS S s); have e : sN (strokeS S s) = sN S := rfl; show outS (strokeS S s) ≤ 8; omega
  | some c => have := outS_le (strokeS (setC1 S c true) s); have e : sN (strokeS (setC1 S c true) s) = sN S := rfl; show outS (strokeS (setC1 S c true) s) ≤ 8; omega
theorem owc_ok {σ : Mem} {S : FS} (h : CR σ 40 S) {s : Nat} (hs : s < 24) {o : Option Nat} (ho : ∀ c, o = some c → c < 36) : ∃ F, fX4_outWithCrack (nI s) (enc o) σ = some (nI (oS S s o), F) ∧ CR F 40 S ∧ PC σ F := by
  obtain ⟨F, e, h1, q⟩ := become_ok fl52 fl40 (by decide) h
  have h40 := h.fr fl40 fl52 (by decide) q
  unfold fX4_outWithCrack
  rw [e, bn1_s]
  cases o with
  | none =>
    obtain ⟨r, e2, _, h2, q2⟩ := brush_ok fl52 h1 hs
    refine ⟨r.2, ?_, h40.fr fl40 fl52 (by decide) q2, (q.tr q2).pc (by omega)⟩
    rw [if_pos (show enc none = -1 from rfl), e2]
    show bn1 (fX0_outs 52 r.2) _ = _
    rw [outs_ok h2]
    rfl
  | some c =>
    have hc := ho c rfl
    have h3 := crackOn fl52 h1 hc
    have fr3 : FR 52 F (putL F 52 3 ((F.2 52 3) ||| ((1 : Int64) <<< ((nI c).toInt64 &&& 63)))) := ⟨fun _ _ _ => rfl, fun j hj => putL_row _ _ _ _ hj⟩
    obtain ⟨r, e2, _, h2, q2⟩ := brush_ok fl52 h3 hs
    have frt := (q.tr fr3).tr q2
    refine ⟨r.2, ?_, h.fr fl40 fl52 (by decide) frt, frt.pc (by omega)⟩
    rw [if_neg (fun z => by have := (enc_none ho).mp z; cases this), stp_e]
    show bnd (fX0_brush 52 (nI s) (putL F 52 3 ((F.2 52 3) ||| ((1 : Int64) <<< ((nI c).toInt64 &&& 63))))) _ = _
    rw [e2]
    show bn1 (fX0_outs 52 r.2) _ = _
    rw [outs_ok h2]
    rfl
theorem outBy_ok {τ : Mem} {S : FS} (h : MR τ S) {s : Nat} (hs : s < 24) : ∃ F, fX5_outBy (nI s) τ = some (nI (outS (strokeS S s)), F) ∧ MR F S ∧ PM τ F := by
  obtain ⟨τ1, e1, m1, l1, p1⟩ := mas h
  obtain ⟨r1, τ2, e2, m2, l2, p2⟩ := mtry m1 l1 hs
  obtain ⟨τ3, e3, m3, l3, p3⟩ := mbk h l2
  refine ⟨τ3, ?_, m3, p3⟩
  unfold fX5_outBy
  rw [e1, bn1_s, e2, bnd_s, outMany_ok m2, bn1_s, e3, bn1_s]
def sv (S : FS) (s : Nat) : Nat → Option Nat × Nat
  | 0 => (none, oS S s none)
  | c + 1 => if (sC S c = false ∧ whoS S (some c) = 0) ∧ oS S s (some c) < (sv S s c).2 then (some c, oS S s (some c)) else sv S s c
theorem sv_s (S : FS) (s c : Nat) : sv S s (c + 1) = if (sC S c = false ∧ whoS S (some c) = 0) ∧ oS S s (some c) < (sv S s c).2 then (some c, oS S s (some c)) else sv S s c := rfl
theorem sv_ok (S : FS) (s : Nat) : ∀ i, (sv S s i).2 = oS S s (sv S s i).1 ∧ ∀ c, (sv S s i).1 = some c → c < i
  | 0 => ⟨rfl, fun c hc => by cases hc⟩
  | i + 1 => by
    have ih := sv_ok S s i
    rw [sv_s]
    split
    · exact ⟨rfl, fun c hc => by cases hc; omega⟩
    · exact ⟨ih.1, fun c hc => by have := ih.2 c hc; omega⟩
theorem saving_ok {σ : Mem} {S : FS} (h : CR σ 40 S) {s : Nat} (hs : s < 24) : ∃ r, fX4_saving (nI s) σ = some r ∧ (r.1 = enc (sv S s 36).1 ∧ CR r.2 40 S ∧ PC σ r.2) := by
  have h8 := h.n
  obtain ⟨F0, e0, c0, p0⟩ := owc_ok h hs (o := none) (fun c hc => by cases hc)
  unfold fX4_saving
  rw [show (-1 : Int32) = enc none from rfl, e0, bnd_s]
  refine loop_in (b := fX4_saving_L12 (nI s)) (fun i v => v.2.2.2 = nI i ∧ v.2.1 = enc (sv S s i).1 ∧ v.2.2.1 = nI (sv S s i).2 ∧ CR v.1 40 S ∧ PC σ v.1) _ 36 ?_ ?_ 1000 0 (F0, enc none, nI (oS S s none), 0) (Nat.zero_le _) (by omega) ⟨rfl, rfl, rfl, c0, p0⟩
  · rintro i ⟨σi, x, y, z⟩ hi ⟨hz, hx, hy, hc, hp⟩
    dsimp only at hz hx hy hc hp
    subst hz hx hy
    obtain ⟨F, e, c40, p⟩ := owc_ok hc hs (o := some i) (fun c hc => by cases hc; exact hi)
    have hw : fX0_thoseIn 40 (nI i) σi = some (nI (whoS S (some i))) := thoseIn_ok hc (o := some i) (fun c q => by cases q; exact hi)
    have hlt : whoS S (some i) < 256 := mkb_256 _ h8
    have body : ∀ ih, fX4_saving_L12 (nI s) ih (σi, enc (sv S s i).1, nI (sv S s i).2, nI i) = if sC S i = false ∧ whoS S (some i) = 0 then (if nI (sv S s i).2 ≤ nI (oS S s (some i)) then ih (F, enc (sv S s i).1, nI (sv S s i).2, nI (i + 1)) else ih (F, nI i, nI (oS S s (some i)), nI (i + 1))) else ih (σi, enc (sv S s i).1, nI (sv S s i).2, nI (i + 1)) := fun ih => by
      unfold fX4_saving_L12
      dsimp only
      rw [if_neg (show ¬ (36 : Int32) ≤ nI i from nI_ge (b := 36) (by omega) (by omega)), isCracked_ok hc hi, bn1_s, hw, bn1_s, show nI i = enc (some i) from rfl, e, bnd_s, show enc (some i) = nI i from rfl, nI_1]
      by_cases q : sC S i = true
      · rw [if_pos q, if_neg (show ¬ (1 : Int32) = 0 by decide), if_neg (show ¬ (sC S i = false ∧ whoS S (some i) = 0) from fun z => by rw [q] at z; cases z.1)]
      · have q' : sC S i = false := by simpa using q
        rw [if_neg q, if_pos rfl, if_eq_lit (L := 0) (k := 0) rfl (by omega) (by decide)]
        by_cases w : whoS S (some i) = 0
        · rw [if_pos w, if_pos (show sC S i = false ∧ whoS S (some i) = 0 from ⟨q', w⟩)]
        · rw [if_neg w, if_neg (show ¬ (sC S i = false ∧ whoS S (some i) = 0) from fun z => w z.2)]
    have b1 := oS_le (S := S) h8 s (some i)
    have b2 : (sv S s i).2 ≤ 8 := by rw [(sv_ok S s i).1]; exact oS_le h8 s _
    by_cases q : sC S i = false ∧ whoS S (some i) = 0
    · by_cases w : oS S s (some i) < (sv S s i).2
      · have e2 : sv S s (i + 1) = (some i, oS S s (some i)) := by rw [sv_s, if_pos ⟨q, w⟩]
        exact ⟨(F, nI i, nI (oS S s (some i)), nI (i + 1)), fun ih => by rw [body, if_pos q, if_neg (nI_ge w (by omega))], rfl, by rw [e2]; rfl, by rw [e2], c40, hp.tr p⟩
      · have e2 : sv S s (i + 1) = sv S s i := by rw [sv_s, if_neg (fun z => w z.2)]
        exact ⟨(F, enc (sv S s i).1, nI (sv S s i).2, nI (i + 1)), fun ih => by rw [body, if_pos q, if_pos (nI_le (by omega) (by omega))], rfl, by rw [e2], by rw [e2], c40, hp.tr p⟩
    · have e2 : sv S s (i + 1) = sv S s i := by rw [sv_s, if_neg (fun z => q z.1)]
      exact ⟨(σi, enc (sv S s i).1, nI (sv S s i).2, nI (i + 1)), fun ih => by rw [body, if_neg q], rfl, by rw [e2], by rw [e2], hc, hp⟩
  · rintro ⟨σi, x, y, z⟩ ⟨hz, hx, hy, hc, hp⟩
    dsimp only at hz hx hy hc hp
    subst hz hx hy
    refine ⟨(enc (sv S s 36).1, σi), fun ih => ?_, rfl, hc, hp⟩
    unfold fX4_saving_L12
    dsimp only
    rw [if_pos (show (36 : Int32) ≤ nI 36 by decide)]
theorem crack_back {S : FS} {c : Nat} (h : sC S c = false) : setC1 (setC1 S c true) c false = S := by
  have e : (fun e => if e = c then false else if e = c then true else sC S e) = sC S := by
    funext e
    by_cases q : e = c
    · rw [if_pos q, q, h]
    · rw [if_neg q, if_neg q]
  show (sN S, sK S, sU S, sA S, (fun e => if e = c then false else if e = c then true else sC S e), sW S, sF S, sV S) = S
  rw [e]
  rfl
theorem msave_ok {τ : Mem} {S : FS} (h : MR τ S) {s : Nat} (hs : s < 24) (a2 : Int32) : ∃ r, (bnd (fX5_outBy (nI s) τ) fun r3 σ3 => loopN (fX5_save_L32 (nI s) a2) 1000 (σ3, -1, r3, 0)) = some r ∧ (r.1 = (if a2 = 0 then enc (sv S s 36).1 else nI (sv S s 36).2) ∧ MR r.2 S ∧ PM τ r.2) := by
  have h8 := h.n
  obtain ⟨F0, e0, m0, p0⟩ := outBy_ok h hs
  rw [e0, bnd_s]
  refine loop_in (b := fX5_save_L32 (nI s) a2) (fun i v => v.2.2.2 = nI i ∧ v.2.1 = enc (sv S s i).1 ∧ v.2.2.1 = nI (sv S s i).2 ∧ MR v.1 S ∧ PM τ v.1) _ 36 ?_ ?_ 1000 0 (F0, -1, nI (outS (strokeS S s)), 0) (Nat.zero_le _) (by omega) ⟨rfl, rfl, rfl, m0, p0⟩
  · rintro i ⟨τi, x, y, z⟩ hi ⟨hz, hx, hy, hm, hp⟩
    dsimp only at hz hx hy hm hp
    subst hz hx hy
    have g : inB (nI i) 36 = true := inB_nI hi (by decide)
    have hw : fX5_whoIn (nI i) τi = some (nI (whoS S (some i))) := whoIn_ok hm (o := some i) (fun c q => by cases q; exact hi)
    have hlt : whoS S (some i) < 256 := mkb_256 _ h8
    have b1 := oS_le (S := S) h8 s (some i)
    have b2 : (sv S s i).2 ≤ 8 := by rw [(sv_ok S s i).1]; exact oS_le h8 s _
    by_cases q : sC S i = false ∧ whoS S (some i) = 0
    · obtain ⟨G, e, mG, pG⟩ := outBy_ok (hm.setC1 (c := i) (v := true) (x := 1) rfl) hs
      have mH : MR (putI G 4 i 0) S := by
        have := mG.setC1 (c := i) (v := false) (x := 0) rfl
        rwa [crack_back q.1] at this
      have pH : PM τ (putI G 4 i 0) := ((hp.put (by omega)).tr pG).put (by omega)
      have body : ∀ ih, fX5_save_L32 (nI s) a2 ih (τi, enc (sv S s i).1, nI (sv S s i).2, nI i) = if nI (sv S s i).2 ≤ nI (oS S s (some i)) then ih (putI G 4 i 0, enc (sv S s i).1, nI (sv S s i).2, nI (i + 1)) else ih (putI G 4 i 0, nI i, nI (oS S s (some i)), nI (i + 1)) := fun ih => by
        unfold fX5_save_L32
        dsimp only
        rw [if_neg (show ¬ (36 : Int32) ≤ nI i from nI_ge (b := 36) (by omega) (by omega)), gd_of g, rd_nI (by omega), hm.2.2.2.2.2.1 i hi, q.1, if_neg (show ¬ (false = true) by decide), if_pos rfl, hw, bn1_s, q.2, if_pos (show nI 0 = 0 from rfl), gd_of g, stp_e, wr_nI (by omega), e, bnd_s, gd_of g, stp_e, wr_nI (by omega), nI_1]
        rfl
      by_cases w : oS S s (some i) < (sv S s i).2
      · have e2 : sv S s (i + 1) = (some i, oS S s (some i)) := by rw [sv_s, if_pos ⟨q, w⟩]
        exact ⟨(putI G 4 i 0, nI i, nI (oS S s (some i)), nI (i + 1)), fun ih => by rw [body, if_neg (nI_ge w (by omega))], rfl, by rw [e2]; rfl, by rw [e2], mH, pH⟩
      · have e2 : sv S s (i + 1) = sv S s i := by rw [sv_s, if_neg (fun z => w z.2)]
        exact ⟨(putI G 4 i 0, enc (sv S s i).1, nI (sv S s i).2, nI (i + 1)), fun ih => by rw [body, if_pos (nI_le (by omega) (by omega))], rfl, by rw [e2], by rw [e2], mH, pH⟩
    · have e2 : sv S s (i + 1) = sv S s i := by rw [sv_s, if_neg (fun z => q z.1)]
      refine ⟨(τi, enc (sv S s i).1, nI (sv S s i).2, nI (i + 1)), fun ih => ?_, rfl, by rw [e2], by rw [e2], hm, hp⟩
      unfold fX5_save_L32
      dsimp only
      rw [if_neg (show ¬ (36 : Int32) ≤ nI i from nI_ge (b := 36) (by omega) (by omega)), gd_of g, rd_nI (by omega), hm.2.2.2.2.2.1 i hi, hw, bn1_s, nI_1]
      by_cases w : sC S i = true
      · rw [if_pos w, if_neg (show ¬ (1 : Int32) = 0 by decide)]
      · have w' : sC S i = false := by simpa using w
        rw [if_neg w, if_pos rfl, if_eq_lit (L := 0) (k := 0) rfl (by omega) (by decide), if_neg (fun z => q ⟨w', z⟩)]
  · rintro ⟨τi, x, y, z⟩ ⟨hz, hx, hy, hm, hp⟩
    dsimp only at hz hx hy hm hp
    subst hz hx hy
    refine ⟨(if a2 = 0 then enc (sv S s 36).1 else nI (sv S s 36).2, τi), fun ih => ?_, rfl, hm, hp⟩
    unfold fX5_save_L32 fX5_save_b101
    dsimp only
    rw [if_pos (show (36 : Int32) ≤ nI 36 by decide)]
    by_cases q : a2 = 0
    · rw [if_pos q, if_pos q]
    · rw [if_neg q, if_neg q]
theorem st_save : St_save Rel := by
  intro a1 a2
  refine simI_st (fun σ τ S h => ?_)
  have hc := h.c; have hm := h.m; have hn := hc.n
  unfold fX4_save fX5_save
  rw [isStroke4, isStroke5, bn1_s, bn1_s, within_I σ a2 0 1 (p := 0) (q := 1) rfl rfl, in_I τ a2 0 1 (p := 0) (q := 1) rfl rfl, bn1_s, bn1_s]
  by_cases q1 : 0 ≤ a1.toInt ∧ a1.toInt ≤ 23
  · obtain ⟨s, hs, _, rfl⟩ := of_rng q1
    rw [if_pos q1, if_neg (show ¬ (1 : Int32) = 0 by decide), if_neg (show ¬ (1 : Int32) = 0 by decide)]
    by_cases q2 : 0 ≤ a2.toInt ∧ a2.toInt ≤ 1
    · rw [if_pos q2, if_neg (show ¬ (1 : Int32) = 0 by decide), if_neg (show ¬ (1 : Int32) = 0 by decide)]
      obtain ⟨r, e1, e2, e3, e4⟩ := saving_ok hc (s := s) (by omega)
      obtain ⟨x, σ'⟩ := r
      obtain ⟨r', f1, f2, f3, f4⟩ := msave_ok hm (s := s) (by omega) a2
      dsimp only at e2 e3 e4
      subst e2
      rw [e1, bnd_s, f1]
      by_cases z : a2 = 0
      · rw [if_pos z] at f2
        rw [if_pos z]
        exact ⟨_, σ', r'.2, rfl, by rw [← f2], e3, f3, e4, f4⟩
      · rw [if_neg z] at f2
        rw [if_neg z]
        have so := sv_ok S s 36
        obtain ⟨F, g1, g2, g3⟩ := owc_ok e3 (s := s) (by omega) so.2
        rw [g1, bnd_s, ← so.1]
        exact ⟨_, F, r'.2, rfl, by rw [← f2], g2, f3, e4.tr g3, f4⟩
    · rw [if_neg q2, if_pos rfl, if_pos rfl]
      exact ⟨-2, σ, τ, rfl, rfl, hc, hm, PC.rf, PM.rf⟩
  · rw [if_neg q1, if_pos rfl, if_pos rfl]
    exact ⟨-2, σ, τ, rfl, rfl, hc, hm, PC.rf, PM.rf⟩
/-! ===== lasts ===== -/
def wkN (S : FS) : Nat → FS
  | 0 => S
  | i + 1 => weekS (wkN S i)
theorem wkN_W (S : FS) : ∀ i, sW (wkN S i) = sW S + i
  | 0 => rfl
  | i + 1 => by show sW (wkN S i) + 1 = _; rw [wkN_W S i]; omega
theorem wkN_N (S : FS) : ∀ i, sN (wkN S i) = sN S
  | 0 => rfl
  | i + 1 => by show sN (wkN S i) = _; rw [wkN_N S i]
def lv (o : Option Nat) : Int32 := match o with | none => -1 | some i => nI i
theorem clasts_ok {σ : Mem} {S : FS} (h : CR σ 40 S) {d n : Nat} (hd : d < sN S) (hn : n ≤ 40) (hw : sW S ≤ 999) : ∃ r, (bn1 (fX0_become 52 40 σ) fun σ3 => loopN (fX4_lasts_L37 (nI d) (nI n)) 1000 (σ3, 0)) = some r ∧ (r.1 = lv (fs (fun i => sA (wkN S i) d == none) (n + 1)) ∧ CR r.2 40 S ∧ PC σ r.2) := by
  obtain ⟨F, e, h1, q⟩ := become_ok fl52 fl40 (by decide) h
  rw [e, bn1_s]
  -- where it ends
  have fin : ∀ (σi : Mem) i, i ≤ n → CR σi 40 S → CR σi 52 (wkN S i) → fX4_lasts_b67 (nI d) (nI n) σi = some (if sA (wkN S i) d = none then nI i else -1, σi) := fun σi i hi c40 c52 => by
    unfold fX4_lasts_b67
    rw [isIn_ok c52 (by rw [wkN_N]; exact hd), bn1_s]
    by_cases z : sA (wkN S i) d = none
    · rw [if_pos z, if_pos rfl, if_pos z, c52.2.2.1, c40.2.2.1, wkN_W, pk_sub (by omega), show sW S + i - sW S = i by omega]
    · rw [if_neg z, if_neg (show ¬ (1 : Int32) = 0 by decide), if_neg z]
  refine loop_inx (b := fX4_lasts_L37 (nI d) (nI n)) (fun i v => v.2 = nI i ∧ (∀ j, j < i → (sA (wkN S j) d == none) = false) ∧ CR v.1 40 S ∧ CR v.1 52 (wkN S i) ∧ PC σ v.1) _ n ?_ ?_ 1000 0 (F, 0) (Nat.zero_le _) (by omega) ⟨rfl, fun j hj => by omega, h.fr fl40 fl52 (by decide) q, h1, q.pc (by omega)⟩
  · rintro i ⟨σi, y⟩ hi ⟨hy, hf, c40, c52, hp⟩
    dsimp only at hy hf c40 c52 hp
    subst hy
    have hiN : d < sN (wkN S i) := by rw [wkN_N]; exact hd
    by_cases z : sA (wkN S i) d = none
    · right
      refine ⟨(nI i, σi), fun ih => ?_, ?_, c40, hp⟩
      · unfold fX4_lasts_L37
        dsimp only
        rw [if_neg (nI_ge hi (by omega)), isIn_ok c52 hiN, bn1_s, if_pos z, if_pos rfl, fin σi i (by omega) c40 c52, if_pos z]
      · rw [fs_some (f := fun i => sA (wkN S i) d == none) (k := i) (by simp [z]) hf (n + 1) (by omega)]
        rfl
    · left
      obtain ⟨r, e2, _, h2, q2⟩ := drift_ok fl52 c52 (by rw [wkN_W]; omega)
      refine ⟨(r.2, nI (i + 1)), fun ih => ?_, rfl, fun j hj => ?_, c40.fr fl40 fl52 (by decide) q2, h2, hp.tr (q2.pc (by omega))⟩
      · unfold fX4_lasts_L37
        dsimp only
        rw [if_neg (nI_ge hi (by omega)), isIn_ok c52 hiN, bn1_s, if_neg z, if_neg (show ¬ (1 : Int32) = 0 by decide), e2, nI_1]
        rfl
      · by_cases w : j = i
        · subst w; exact beq_eq_false_iff_ne.mpr z
        · exact hf j (by omega)
  · rintro ⟨σi, y⟩ ⟨hy, hf, c40, c52, hp⟩
    dsimp only at hy hf c40 c52 hp
    subst hy
    refine ⟨(if sA (wkN S n) d = none then nI n else -1, σi), fun ih => ?_, ?_, c40, hp⟩
    · unfold fX4_lasts_L37
      dsimp only
      rw [if_pos (nI_le (Nat.le_refl _) (by omega)), fin σi n (Nat.le_refl _) c40 c52]
    · by_cases z : sA (wkN S n) d = none
      · rw [if_pos z, fs_some (f := fun i => sA (wkN S i) d == none) (k := n) (by simp [z]) hf (n + 1) (by omega)]
        rfl
      · rw [if_neg z, fs_none (f := fun i => sA (wkN S i) d == none) (n + 1) (fun j hj => by
          by_cases w : j = n
          · subst w; exact beq_eq_false_iff_ne.mpr z
          · exact hf j (by omega))]
        rfl
theorem mlasts_ok {τ : Mem} {S : FS} (h : MR τ S) {d n : Nat} (hd : d < sN S) (hn : n ≤ 40) (hw : sW S ≤ 999) : ∃ r, (bn1 (fX5_laysAside τ) fun σ3 => loopN (fX5_lasts_L29 (nI d) (nI n)) 1000 (σ3, 0)) = some r ∧ (r.1 = lv (fs (fun i => sA (wkN S i) d == none) (n + 1)) ∧ MR r.2 S ∧ PM τ r.2) := by
  have h8 := h.n
  obtain ⟨τ1, e1, m1, l1, p1⟩ := mas h
  rw [e1, bn1_s]
  have gd8 : inB (nI d) 8 = true := inB_nI (by omega) (by decide)
  refine loop_inx (b := fX5_lasts_L29 (nI d) (nI n)) (fun i v => v.2 = nI i ∧ (∀ j, j < i → (sA (wkN S j) d == none) = false) ∧ MR v.1 (wkN S i) ∧ LA τ v.1) _ (n + 1) ?_ ?_ 1000 0 (τ1, 0) (Nat.zero_le _) (by omega) ⟨rfl, fun j hj => by omega, m1, l1⟩
  · rintro i ⟨τi, y⟩ hi ⟨hy, hf, hm, hl⟩
    dsimp only at hy hf hm hl
    subst hy
    have hiN : d < sN (wkN S i) := by rw [wkN_N]; exact hd
    have hr : rd τi 7 (nI d) = enc (sA (wkN S i) d) := by rw [rd_nI (by omega)]; exact (hm.2.2.2.2.1 d hiN).2.2
    by_cases z : sA (wkN S i) d = none
    · right
      obtain ⟨τ3, e3, m3, l3, p3⟩ := mbk h hl
      refine ⟨(nI i, τ3), fun ih => ?_, ?_, m3, p3⟩
      · unfold fX5_lasts_L29 fX5_lasts_b55
        dsimp only
        rw [if_neg (nI_nlt (by omega) (by omega)), gd_of gd8, hr, z, if_pos (show enc none = -1 from rfl), e3, bn1_s, if_pos (nI_le (by omega) (by omega))]
      · rw [fs_some (f := fun i => sA (wkN S i) d == none) (k := i) (by simp [z]) hf (n + 1) (by omega)]
        rfl
    · left
      obtain ⟨r, e2, _, h2, q2⟩ := passes_ok hm (by rw [wkN_W]; omega)
      refine ⟨(r.2, nI (i + 1)), fun ih => ?_, rfl, fun j hj => ?_, h2, hl.fm q2⟩
      · unfold fX5_lasts_L29
        dsimp only
        rw [if_neg (nI_nlt (by omega) (by omega)), gd_of gd8, hr, if_neg (fun w => z ((enc_none (hm.at36 hiN)).mp w)), e2, nI_1]
        rfl
      · by_cases w : j = i
        · subst w; exact beq_eq_false_iff_ne.mpr z
        · exact hf j (by omega)
  · rintro ⟨τi, y⟩ ⟨hy, hf, hm, hl⟩
    dsimp only at hy hf hm hl
    subst hy
    obtain ⟨τ3, e3, m3, l3, p3⟩ := mbk h hl
    refine ⟨(-1, τ3), fun ih => ?_, ?_, m3, p3⟩
    · unfold fX5_lasts_L29 fX5_lasts_b55
      dsimp only
      rw [if_pos (nI_lt (by omega) (by omega)), e3, bn1_s, if_neg (nI_ge (by omega) (by omega))]
    · rw [fs_none (f := fun i => sA (wkN S i) d == none) (n + 1) hf]
      rfl
theorem st_lasts : St_lasts Rel := by
  intro a1 a2
  refine simI_st (fun σ τ S h => ?_)
  have hc := h.c; have hm := h.m; have hn := hc.n
  unfold fX4_lasts fX5_lasts
  rw [has_ok hc, isOne5 hm, bn1_s, bn1_s, within_I σ a2 0 40 (p := 0) (q := 40) rfl rfl, in_I τ a2 0 40 (p := 0) (q := 40) rfl rfl, bn1_s, bn1_s]
  by_cases q1 : 0 ≤ a1.toInt ∧ a1.toInt < (sN S : Int)
  · obtain ⟨d, hd, rfl⟩ := of_one q1 (by omega)
    rw [if_pos q1, if_neg (show ¬ (1 : Int32) = 0 by decide), if_neg (show ¬ (1 : Int32) = 0 by decide)]
    by_cases q2 : 0 ≤ a2.toInt ∧ a2.toInt ≤ 40
    · obtain ⟨n, hn40, _, rfl⟩ := of_rng q2
      rw [if_pos q2, if_neg (show ¬ (1 : Int32) = 0 by decide), if_neg (show ¬ (1 : Int32) = 0 by decide)]
      obtain ⟨r, e1, e2, e3, e4⟩ := clasts_ok hc hd (show n ≤ 40 by omega) h.w
      obtain ⟨r', f1, f2, f3, f4⟩ := mlasts_ok hm hd (show n ≤ 40 by omega) h.w
      refine ⟨r.1, r.2, r'.2, e1, ?_, e3, f3, e4, f4⟩
      rw [f1, e2, ← f2]
    · rw [if_neg q2, if_pos rfl, if_pos rfl]
      exact ⟨-2, σ, τ, rfl, rfl, hc, hm, PC.rf, PM.rf⟩
  · rw [if_neg q1, if_pos rfl, if_pos rfl]
    exact ⟨-2, σ, τ, rfl, rfl, hc, hm, PC.rf, PM.rf⟩
/-! ===== drawn, chance ===== -/
def nxt (z : Int32) : Int32 := z * 1103515245 + 12345
def sidx (z : Int32) : Nat := z.toBitVec.toNat / 2 ^ 9 % 24
theorem sidx_lt (z : Int32) : sidx z < 24 := Nat.mod_lt _ (by decide)
theorem sidx_ok (z : Int32) : ((z.toUInt32 >>> ((9 : Int32).toUInt32 &&& Int32.toUInt32 31)).toInt32) - ((z.toUInt32 >>> ((9 : Int32).toUInt32 &&& Int32.toUInt32 31)).toInt32) / 24 * 24 = nI (sidx z) := by
  have e : (z.toUInt32 >>> ((9 : Int32).toUInt32 &&& Int32.toUInt32 31)).toInt32 = nI (z.toBitVec.toNat / 2 ^ 9) := by
    apply Int32.toBitVec_inj.mp
    apply BitVec.eq_of_toNat_eq
    rw [pk_ushr z 9 9 (by decide)]
    have := z.toBitVec.isLt
    rw [pk_tn (by omega)]
  have := z.toBitVec.isLt
  rw [e]
  exact pk_rem (d := 24) (by omega) (by decide) (by decide)
def dr (S : FS) (z : Int32) : Nat → FS × Int32
  | 0 => (S, z)
  | i + 1 => (strokeS (dr S z i).1 (sidx (nxt (dr S z i).2)), nxt (dr S z i).2)
theorem dr_N (S : FS) (z : Int32) : ∀ i, sN (dr S z i).1 = sN S
  | 0 => rfl
  | i + 1 => by show sN (dr S z i).1 = _; exact dr_N S z i
def outD (S : FS) (z : Int32) (n : Nat) : Nat := outS (dr S z n).1
theorem outD_le {S : FS} (h : sN S ≤ 8) (z : Int32) (n : Nat) : outD S z n ≤ 8 := by
  have := outS_le (dr S z n).1
  rw [dr_N] at this
  unfold outD
  omega
theorem obd_ok {σ : Mem} {S : FS} (h : CR σ 40 S) (z : Int32) {n : Nat} (hn : n ≤ 40) : ∃ r, fX4_outByDrawn z (nI n) σ = some r ∧ (r.1 = nI (outD S z n) ∧ CR r.2 40 S ∧ PC σ r.2) := by
  obtain ⟨F, e, h1, q⟩ := become_ok fl52 fl40 (by decide) h
  unfold fX4_outByDrawn
  rw [e, bn1_s]
  refine loop_in (b := fX4_outByDrawn_L16 z (nI n)) (fun i v => v.2.2 = nI i ∧ v.2.1 = (dr S z i).2 ∧ CR v.1 40 S ∧ CR v.1 52 (dr S z i).1 ∧ PC σ v.1) _ n ?_ ?_ 1000 0 (F, z, 0) (Nat.zero_le _) (by omega) ⟨rfl, rfl, h.fr fl40 fl52 (by decide) q, h1, q.pc (by omega)⟩
  · rintro i ⟨σi, x, y⟩ hi ⟨hy, hx, c40, c52, hp⟩
    dsimp only at hy hx c40 c52 hp
    subst hy hx
    obtain ⟨r, e2, _, h2, q2⟩ := brush_ok fl52 c52 (sidx_lt (nxt (dr S z i).2))
    refine ⟨(r.2, nxt (dr S z i).2, nI (i + 1)), fun ih => ?_, rfl, rfl, c40.fr fl40 fl52 (by decide) q2, h2, hp.tr (q2.pc (by omega))⟩
    unfold fX4_outByDrawn_L16
    dsimp only
    rw [if_neg (nI_ge hi (by omega)), show (dr S z i).2 * 1103515245 + 12345 = nxt (dr S z i).2 from rfl, sidx_ok, e2, nI_1]
    rfl
  · rintro ⟨σi, x, y⟩ ⟨hy, hx, c40, c52, hp⟩
    dsimp only at hy hx c40 c52 hp
    subst hy hx
    refine ⟨(nI (outD S z n), σi), fun ih => ?_, rfl, c40, hp⟩
    unfold fX4_outByDrawn_L16
    dsimp only
    rw [if_pos (nI_le (Nat.le_refl _) (by omega)), outs_ok c52]
    rfl
theorem od_ok {τ : Mem} {S : FS} (h : MR τ S) (z : Int32) {n : Nat} (hn : n ≤ 40) : ∃ r, fX5_outDrawn z (nI n) τ = some r ∧ (r.1 = nI (outD S z n) ∧ MR r.2 S ∧ PM τ r.2) := by
  obtain ⟨τ1, e1, m1, l1, p1⟩ := mas h
  unfold fX5_outDrawn
  rw [e1, bn1_s]
  refine loop_in (b := fX5_outDrawn_L9 z (nI n)) (fun i v => v.2.2 = nI i ∧ v.2.1 = (dr S z i).2 ∧ MR v.1 (dr S z i).1 ∧ LA τ v.1) _ n ?_ ?_ 1000 0 (τ1, z, 0) (Nat.zero_le _) (by omega) ⟨rfl, rfl, m1, l1⟩
  · rintro i ⟨τi, x, y⟩ hi ⟨hy, hx, hm, hl⟩
    dsimp only at hy hx hm hl
    subst hy hx
    obtain ⟨r1, τ2, e2, m2, l2, p2⟩ := mtry hm hl (sidx_lt (nxt (dr S z i).2))
    refine ⟨(τ2, nxt (dr S z i).2, nI (i + 1)), fun ih => ?_, rfl, rfl, m2, l2⟩
    unfold fX5_outDrawn_L9
    dsimp only
    rw [if_neg (nI_ge hi (by omega)), show (dr S z i).2 * 1103515245 + 12345 = nxt (dr S z i).2 from rfl, sidx_ok, e2, nI_1]
    rfl
  · rintro ⟨τi, x, y⟩ ⟨hy, hx, hm, hl⟩
    dsimp only at hy hx hm hl
    subst hy hx
    obtain ⟨τ3, e3, m3, l3, p3⟩ := mbk h hl
    refine ⟨(nI (outD S z n), τ3), fun ih => ?_, rfl, m3, p3⟩
    unfold fX5_outDrawn_L9 fX5_outDrawn_b43
    dsimp only
    rw [if_pos (nI_le (Nat.le_refl _) (by omega)), outMany_ok hm, bn1_s, e3]
    rfl
theorem st_drawn : St_drawn Rel := by
  intro a1 a2
  refine simI_st (fun σ τ S h => ?_)
  have hc := h.c; have hm := h.m
  unfold fX4_drawn fX5_drawn
  rw [within_I σ a2 0 40 (p := 0) (q := 40) rfl rfl, in_I τ a2 0 40 (p := 0) (q := 40) rfl rfl, bn1_s, bn1_s]
  by_cases q : 0 ≤ a2.toInt ∧ a2.toInt ≤ 40
  · obtain ⟨n, hn, _, rfl⟩ := of_rng q
    rw [if_pos q, if_neg (show ¬ (1 : Int32) = 0 by decide), if_neg (show ¬ (1 : Int32) = 0 by decide)]
    obtain ⟨r, e1, e2, e3, e4⟩ := obd_ok hc a1 (show n ≤ 40 by omega)
    obtain ⟨r', f1, f2, f3, f4⟩ := od_ok hm a1 (show n ≤ 40 by omega)
    refine ⟨r.1, r.2, r'.2, by rw [e1]; rfl, ?_, e3, f3, e4, f4⟩
    rw [f1, e2, ← f2]; rfl
  · rw [if_neg q, if_pos rfl, if_pos rfl]
    exact ⟨-2, σ, τ, rfl, rfl, hc, hm, PC.rf, PM.rf⟩
def hits (S : FS) (z : Int32) (k : Nat) (i : Nat) : Nat := cnt (fun j => decide (outD S (z + nI j) 6 ≤ k)) i
theorem chance4_ok {σ : Mem} {S : FS} (h : CR σ 40 S) (z a4 : Int32) {m k : Nat} (hm : m ≤ 20) (hk : k ≤ 8) : ∃ σ', loopN (fX4_chance_L30 z (nI m) (nI k) a4) 1000 (σ, 0, 0) = (bn1 (fX4_lowest (nI (hits S z k m)) (nI m) a4 σ') fun r3 => some (r3, σ')) ∧ CR σ' 40 S ∧ PC σ σ' := by
  have key : ∀ (rem i f : Nat) (σ1 : Mem), i + rem = m → rem < f → CR σ1 40 S → PC σ σ1 → ∃ σ', loopN (fX4_chance_L30 z (nI m) (nI k) a4) f (σ1, nI (hits S z k i), nI i) = (bn1 (fX4_lowest (nI (hits S z k m)) (nI m) a4 σ') fun r3 => some (r3, σ')) ∧ CR σ' 40 S ∧ PC σ σ' := by
    intro rem
    induction rem with
    | zero =>
      intro i f σ1 hi hf hc hp
      cases f with
      | zero => omega
      | succ f =>
        refine ⟨σ1, ?_, hc, hp⟩
        show fX4_chance_L30 z (nI m) (nI k) a4 (loopN _ f) (σ1, nI (hits S z k i), nI i) = _
        unfold fX4_chance_L30 fX4_chance_b59
        dsimp only
        rw [if_pos (nI_le (by omega) (by omega)), show i = m by omega]
    | succ rem ih =>
      intro i f σ1 hi hf hc hp
      cases f with
      | zero => omega
      | succ f =>
        obtain ⟨r, e1, e2, e3, e4⟩ := obd_ok hc (z + nI i) (n := 6) (by omega)
        obtain ⟨σ', g1, g2, g3⟩ := ih (i + 1) f r.2 (by omega) (by omega) e3 (hp.tr e4)
        refine ⟨σ', ?_, g2, g3⟩
        rw [← g1]
        show fX4_chance_L30 z (nI m) (nI k) a4 (loopN (fX4_chance_L30 z (nI m) (nI k) a4) f) (σ1, nI (hits S z k i), nI i) = _
        generalize loopN (fX4_chance_L30 z (nI m) (nI k) a4) f = K
        have o8 := outD_le (S := S) h.n (z + nI i) 6
        unfold fX4_chance_L30
        dsimp only
        rw [if_neg (nI_ge (by omega) (by omega)), show (6 : Int32) = nI 6 from rfl, e1]
        show (if nI k < r.1 then K (r.2, nI (hits S z k i), nI i + 1) else K (r.2, nI (hits S z k i) + 1, nI i + 1)) = _
        rw [e2, nI_1, nI_1]
        have es : hits S z k (i + 1) = hits S z k i + (if decide (outD S (z + nI i) 6 ≤ k) = true then 1 else 0) := rfl
        rw [es]
        by_cases q : outD S (z + nI i) 6 ≤ k
        · rw [if_neg (nI_nlt q (by omega)), if_pos (decide_eq_true q)]
        · rw [if_pos (nI_lt (by omega) (by omega)), if_neg (by simp [q])]; rfl
  exact key m 0 1000 σ (by omega) (by omega) h PC.rf
theorem chance5_ok {τ : Mem} {S : FS} (h : MR τ S) (z a4 : Int32) {m k : Nat} (hm : m ≤ 20) (hk : k ≤ 8) : ∃ τ', loopN (fX5_chance_L45 z (nI m) (nI k) a4) 1000 (τ, 0, 0) = (bn1 (fX5_lowest (lN (hits S z k m)) (lN m) a4 τ') fun r3 => some (r3, τ')) ∧ MR τ' S ∧ PM τ τ' := by
  have key : ∀ (rem i f : Nat) (τ1 : Mem), i + rem = m → rem < f → MR τ1 S → PM τ τ1 → ∃ τ', loopN (fX5_chance_L45 z (nI m) (nI k) a4) f (τ1, lN (hits S z k i), nI i) = (bn1 (fX5_lowest (lN (hits S z k m)) (lN m) a4 τ') fun r3 => some (r3, τ')) ∧ MR τ' S ∧ PM τ τ' := by
    intro rem
    induction rem with
    | zero =>
      intro i f τ1 hi hf hc hp
      cases f with
      | zero => omega
      | succ f =>
        refine ⟨τ1, ?_, hc, hp⟩
        show fX5_chance_L45 z (nI m) (nI k) a4 (loopN _ f) (τ1, lN (hits S z k i), nI i) = _
        unfold fX5_chance_L45 fX5_chance_b81
        dsimp only
        rw [if_pos (nI_le (by omega) (by omega)), show i = m by omega, nI_l (by omega)]
    | succ rem ih =>
      intro i f τ1 hi hf hc hp
      cases f with
      | zero => omega
      | succ f =>
        obtain ⟨r, e1, e2, e3, e4⟩ := od_ok hc (z + nI i) (n := 6) (by omega)
        obtain ⟨τ', g1, g2, g3⟩ := ih (i + 1) f r.2 (by omega) (by omega) e3 (hp.tr e4)
        refine ⟨τ', ?_, g2, g3⟩
        rw [← g1]
        show fX5_chance_L45 z (nI m) (nI k) a4 (loopN (fX5_chance_L45 z (nI m) (nI k) a4) f) (τ1, lN (hits S z k i), nI i) = _
        generalize loopN (fX5_chance_L45 z (nI m) (nI k) a4) f = K
        have o8 := outD_le (S := S) h.n (z + nI i) 6
        unfold fX5_chance_L45
        dsimp only
        rw [if_neg (nI_ge (by omega) (by omega)), show (6 : Int32) = nI 6 from rfl, e1]
        show (if nI k < r.1 then K (r.2, lN (hits S z k i) + 0, nI i + 1) else K (r.2, lN (hits S z k i) + 1, nI i + 1)) = _
        rw [e2, nI_1, lN_1, show lN (hits S z k i) + 0 = lN (hits S z k i + 0) from lN_add _ 0]
        have es : hits S z k (i + 1) = hits S z k i + (if decide (outD S (z + nI i) 6 ≤ k) = true then 1 else 0) := rfl
        rw [es]
        by_cases q : outD S (z + nI i) 6 ≤ k
        · rw [if_neg (nI_nlt q (by omega)), if_pos (decide_eq_true q)]
        · rw [if_pos (nI_lt (by omega) (by omega)), if_neg (by simp [q]), Nat.add_zero]
  exact key m 0 1000 τ (by omega) (by omega) h PM.rf
theorem st_chance : St_chance Rel := by
  intro a1 a2 a3 a4
  refine simL_st (fun σ τ S h => ?_)
  have hc := h.c; have hm := h.m
  unfold fX4_chance fX5_chance
  rw [within_I σ a2 1 20 (p := 1) (q := 20) rfl rfl, in_I τ a2 1 20 (p := 1) (q := 20) rfl rfl, bn1_s, bn1_s, within_I σ a3 0 8 (p := 0) (q := 8) rfl rfl, in_I τ a3 0 8 (p := 0) (q := 8) rfl rfl, bn1_s, bn1_s, in_I τ a4 0 1 (p := 0) (q := 1) rfl rfl, bn1_s]
  by_cases q1 : 1 ≤ a2.toInt ∧ a2.toInt ≤ 20
  · obtain ⟨m, hm20, _, rfl⟩ := of_rng (a := a2) (q := 20) ⟨by omega, q1.2⟩
    have hm1 : 1 ≤ m := by have := q1.1; rw [nI_toInt (by omega)] at this; omega
    rw [if_pos q1, if_neg (show ¬ (1 : Int32) = 0 by decide), if_neg (show ¬ (1 : Int32) = 0 by decide)]
    by_cases q2 : 0 ≤ a3.toInt ∧ a3.toInt ≤ 8
    · obtain ⟨k, hk8, _, rfl⟩ := of_rng q2
      rw [if_pos q2, if_neg (show ¬ (1 : Int32) = 0 by decide), if_neg (show ¬ (1 : Int32) = 0 by decide)]
      obtain ⟨σ', e1, e2, e3⟩ := chance4_ok hc a1 a4 (m := m) (k := k) (by omega) (by omega)
      rw [e1]
      by_cases q3 : 0 ≤ a4.toInt ∧ a4.toInt ≤ 1
      · obtain ⟨p, hp, _, rfl⟩ := of_rng q3
        obtain ⟨τ', f1, f2, f3⟩ := chance5_ok hm a1 (nI p) (m := m) (k := k) (by omega) (by omega)
        have hle : hits S a1 k m ≤ m := cnt_le _ _
        obtain ⟨r, r1, r2⟩ := low_ok σ' τ' (a := hits S a1 k m) (b := m) (p := p) (by omega) (by omega) (by omega) (by omega)
        rw [if_pos q3, if_neg (show ¬ (1 : Int32) = 0 by decide), f1, r1, r2, bn1_s, bn1_s]
        exact ⟨r, σ', τ', rfl, rfl, e2, f2, e3, f3⟩
      · rw [if_neg q3, if_pos rfl, lowO σ' _ q3, bn1_s]
        exact ⟨_, σ', τ, rfl, rfl, e2, hm, e3, PM.rf⟩
    · rw [if_neg q2, if_pos rfl, if_pos rfl]
      exact ⟨_, σ, τ, rfl, rfl, hc, hm, PC.rf, PM.rf⟩
  · rw [if_neg q1, if_pos rfl, if_pos rfl]
    exact ⟨_, σ, τ, rfl, rfl, hc, hm, PC.rf, PM.rf⟩
