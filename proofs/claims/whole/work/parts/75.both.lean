/-! ===== the model reads the three parts ===== -/
section BOTH
variable {L : Nat → Nat} {n K ρ : Nat}
def MST (L : Nat → Nat) (n K p : Nat) (τ0 τ : Mem) : Prop := PF τ0 τ ∧ (((rds (tk L n) K p).1 = false ∧ ¬ τ.1 0 27 = 0 ∧ τ.1 0 28 = nI (ts L n (rds (tk L n) K p).2.1)) ∨ ((rds (tk L n) K p).1 = true ∧ τ.1 0 27 = 0 ∧ τ.1 0 26 = nI 0 ∧ TA τ L n (rds (tk L n) K p).2.1 ∧ (rds (tk L n) K p).2.1 ≤ K))
theorem mst_step {τ0 τ : Mem} (hK : K ≤ 160) (hT : tk L n K = -1 ∨ tk L n K = -2) {p : Nat} (hp : p < 3) (hx : TX τ0 ρ L n) (h : MST L n K p τ0 τ) {wd : Option Int32} (hw : ∀ i, TX τ ρ L n → TA τ L n i → τ.1 0 27 = 0 → wd = some (if tk L n i = -3 - nI p then 1 else 0)) : ∃ v τ2, (τ.1 0 27 = 0 → ∃ r, wd = some r ∧ fX5_part r τ = some (v, τ2)) ∧ (¬ τ.1 0 27 = 0 → v = 0 ∧ τ2 = τ) ∧ MST L n K (p + 1) τ0 τ2 ∧ ((rds (tk L n) K (p + 1)).1 = true → ∃ c, (rds (tk L n) K (p + 1)).2.2 = c.reverse ++ (rds (tk L n) K p).2.2 ∧ ∀ stk, evc (ofM τ0) c stk = v :: stk) := by
  obtain ⟨pf, h⟩ := h
  rcases h with ⟨a1, a2, a3⟩ | ⟨a1, a2, a3, a4, a5⟩
  · have e : rds (tk L n) K (p + 1) = rds (tk L n) K p := by
      show (if (rds (tk L n) K p).1 = true then _ else _) = _
      rw [a1, if_neg (by decide)]
    rw [show (MST L n K (p + 1) τ0 = fun τ2 => MST L n K (p + 1) τ0 τ2) from rfl]
    refine ⟨0, τ, fun z => absurd z a2, fun _ => ⟨rfl, rfl⟩, ⟨pf, Or.inl ?_⟩, fun z => ?_⟩
    · rw [e]; exact ⟨a1, a2, a3⟩
    · rw [e, a1] at z; exact absurd z (by decide)
  · have e : rds (tk L n) K (p + 1) = rd1 (tk L n) K p (rds (tk L n) K p).2.1 (rds (tk L n) K p).2.2 := by
      show (if (rds (tk L n) K p).1 = true then _ else _) = _
      rw [if_pos a1]
    obtain ⟨v, F, s1, s2, s3⟩ := mpart_ok hK hT hp a5 (rds (tk L n) K p).2.2 (hx.pf pf) a4 a2 a3
    rw [← e] at s3
    refine ⟨v, F, fun _ => ⟨_, hw _ (hx.pf pf) a4 a2, s1⟩, fun z => absurd a2 z, ⟨pf.tr s2, ?_⟩, fun z => ?_⟩
    · rcases s3 with s3 | ⟨b1, b2, b3, b4, b5, _⟩
      · exact Or.inl s3
      · exact Or.inr ⟨b1, b2, b3, b4, b5⟩
    · rcases s3 with ⟨b1, _⟩ | ⟨b1, b2, b3, b4, b5, c, b6, b7⟩
      · rw [b1] at z; exact absurd z (by decide)
      · exact ⟨c, b6, fun stk => by rw [← ofM_pf pf]; exact b7 stk⟩
def sel (q : Nat) (a b c : Int32) : Int32 := if q = 0 then a else if q = 1 then b else c
theorem sel_ok {q : Nat} (hq : q < 3) (x : Int32) (a b c : Int32) (τ : Mem) : (if nI q = 0 then some (a, τ) else if nI q = 1 then some (b, τ) else some (c, τ)) = some (sel q a b c, τ) := by
  rcases (show q = 0 ∨ q = 1 ∨ q = 2 by omega) with rfl | rfl | rfl <;> rfl
theorem b125_no (a1 : Int32) {q : Nat} (hq : q < 3) {τ : Mem} (hb : ¬ τ.1 0 27 = 0) (a b c : Int32) : fX5_read_b125 a1 (nI q) τ a b c = some (sel q a b c, τ) := by
  unfold fX5_read_b125
  rw [if_neg hb]
  exact sel_ok hq 0 a b c τ
theorem b125_end (a1 : Int32) {q : Nat} (hq : q < 3) {τ : Mem} (hb : τ.1 0 27 = 0) (h : τ.1 0 23 = 0) (a b c : Int32) : fX5_read_b125 a1 (nI q) τ a b c = some (sel q a b c, τ) := by
  unfold fX5_read_b125
  rw [if_pos hb, if_pos h]
  exact sel_ok hq 0 a b c τ
theorem b125_more (a1 : Int32) {q : Nat} (hq : q < 3) {τ : Mem} (hb : τ.1 0 27 = 0) (h : ¬ τ.1 0 23 = 0) (a b c : Int32) : ∃ F, fX5_read_b125 a1 (nI q) τ a b c = some (sel q a b c, F) ∧ F.1 0 27 = 1 ∧ F.1 0 28 = τ.1 0 24 ∧ PF τ F := by
  obtain ⟨F, f1, f2⟩ := fail_ok hb
  refine ⟨F, ?_, f2⟩
  unfold fX5_read_b125
  rw [if_pos hb, if_neg h, f1, bn1_s]
  exact sel_ok hq 0 a b c F
theorem t160 : ∀ ρ, ρ < 6 → (160 : Int32) * nI ρ = nI (160 * ρ) := by decide
theorem ta_end {τ : Mem} {i : Nat} (ta : TA τ L n i) : τ.1 0 23 = 0 ↔ tk L n i = -1 := by
  obtain ⟨_, _, hh⟩ := ta
  rcases hh with ⟨e1, e2⟩ | ⟨e, e1, e2, e3, e4, e5, e6, e7⟩ | ⟨v, e1, e2, e3, e4, e5⟩ | ⟨l, e1, e2, e3, e4, e5, e6⟩ | ⟨e1, e2⟩
  · exact ⟨fun _ => e1, fun _ => e2⟩
  · rw [e4, e7]
    refine ⟨fun z => absurd z (by decide), fun z => ?_⟩
    exfalso
    unfold wcode at z
    cases hf : fs (isW L (ts L n i) e) 12 with
    | none => rw [hf] at z; exact absurd z (by decide)
    | some w => rw [hf] at z; exact (tok_word_ne (fs_lt12 hf)).1 z
  · rw [e3, e2]
    exact ⟨fun z => absurd z (by decide), fun z => absurd z (nI_nem1 (by omega))⟩
  · rw [e4, e2]
    exact ⟨fun z => absurd z (by decide), fun z => absurd z (sg_neg e1 e3).1⟩
  · rw [e1, e2]
    exact ⟨fun z => absurd z (by decide), fun z => absurd z (by decide)⟩
theorem pf_sy {τ F : Mem} (h : PF τ F) : SY 0 τ F := ⟨fun j a _ => h.1 j a, fun k hk => h.2.1 k (fun z => by
  unfold msc at hk
  rw [decide_eq_true (show 14 ≤ k by omega), decide_eq_true z.2] at hk
  cases hk), h.2.2⟩
theorem mread_ok {τ : Mem} (hρ : ρ < 6) (hn : n ≤ 160) (h2 : τ.1 2 ρ = nI n) (hl : ∀ i, i < n → τ.1 1 (160 * ρ + i) = nI (L i) ∧ L i < 256) (hKn : K ≤ n) (hT : tk L n K = -1 ∨ tk L n K = -2) {q : Nat} (hq : q < 3) : ∃ v F, fX5_read (nI ρ) (nI q) τ = some (v, F) ∧ SY 0 τ F ∧ ((rok (tk L n) K = false ∧ ¬ F.1 0 27 = 0 ∧ F.1 0 28 = nI (ts L n (rds (tk L n) K 3).2.1)) ∨ (rok (tk L n) K = true ∧ F.1 0 27 = 0 ∧ ∃ (c : Nat → List Int32) (w : Nat → Int32), (∀ p, p < 3 → (rds (tk L n) K (p + 1)).2.2 = (c p).reverse ++ (rds (tk L n) K p).2.2 ∧ ∀ stk, evc (ofM τ) (c p) stk = w p :: stk) ∧ v = w q)) := by
  have hK : K ≤ 160 := by omega
  let M0 := putI (putI (putI (putI (putI τ 0 20 (nI (160 * ρ))) 0 21 (nI n)) 0 22 0) 0 26 0) 0 27 0
  have m2 : ∀ j, j ≠ 0 → M0.1 j = τ.1 j := fun j hj => by
    show (putI _ 0 27 0).1 j = _
    rw [putI_row _ _ _ _ hj, putI_row _ _ _ _ hj, putI_row _ _ _ _ hj, putI_row _ _ _ _ hj, putI_row _ _ _ _ hj]
  have m0 : ∀ k, k ≠ 20 → k ≠ 21 → k ≠ 22 → k ≠ 26 → k ≠ 27 → M0.1 0 k = τ.1 0 k := fun k a b c d e => by
    show (putI _ 0 27 0).1 0 k = _
    rw [putI_fld _ _ _ _ e, putI_fld _ _ _ _ d, putI_fld _ _ _ _ c, putI_fld _ _ _ _ b, putI_fld _ _ _ _ a]
  have m20 : M0.1 0 20 = nI (160 * ρ) := by
    show (putI _ 0 27 0).1 0 20 = _
    rw [putI_fld _ _ _ _ (by decide), putI_fld _ _ _ _ (by decide), putI_fld _ _ _ _ (by decide), putI_fld _ _ _ _ (by decide), putI_self]
  have m21 : M0.1 0 21 = nI n := by
    show (putI _ 0 27 0).1 0 21 = _
    rw [putI_fld _ _ _ _ (by decide), putI_fld _ _ _ _ (by decide), putI_fld _ _ _ _ (by decide), putI_self]
  have m22 : M0.1 0 22 = nI (tkp L n 0) := by
    show (putI _ 0 27 0).1 0 22 = _
    rw [putI_fld _ _ _ _ (by decide), putI_fld _ _ _ _ (by decide), putI_self]
    rfl
  have m26 : M0.1 0 26 = nI 0 := by
    show (putI _ 0 27 0).1 0 26 = _
    rw [putI_fld _ _ _ _ (by decide), putI_self]
    rfl
  have m27 : M0.1 0 27 = 0 := putI_self ..
  have s0 : SY 0 τ M0 := ⟨fun j a _ => m2 j a, fun k hk => m0 k (fun z => by rw [z] at hk; cases hk) (fun z => by rw [z] at hk; cases hk) (fun z => by rw [z] at hk; cases hk) (fun z => by rw [z] at hk; cases hk) (fun z => by rw [z] at hk; cases hk), fun j _ => rfl⟩
  have oM : ofM M0 = ofM τ := by
    funext k
    unfold ofM
    by_cases z : k < 6
    · rw [if_pos z, if_pos z, m0 _ (by omega) (by omega) (by omega) (by omega) (by omega)]
    · rw [if_neg z, if_neg z]
  have hx : TX M0 ρ L n := ⟨hρ, hn, m20, m21, fun i hi => by rw [m2 1 (by decide)]; exact hl i hi⟩
  obtain ⟨F1, n1, n2, n3⟩ := next_ok hx m22
  have st0 : MST L n K 0 M0 F1 := ⟨n3.pf, Or.inr ⟨rfl, by rw [n3.2.1 27 (by omega)]; exact m27, by rw [n3.2.1 26 (by omega)]; exact m26, n2, Nat.zero_le _⟩⟩
  have b1 : F1.1 0 27 = 0 := by rw [n3.2.1 27 (by omega)]; exact m27
  obtain ⟨v0, F2, a1, _, st1, d1⟩ := mst_step hK hT (p := 0) (by decide) hx st0 (wd := fX5_isWord 103 111 101 115 0 0 0 0 F1) (fun i hx ta hb => word_ok hx ta hb (w := 0) (by decide))
  obtain ⟨v1, F3, a2, a2', st2, d2⟩ := mst_step hK hT (p := 1) (by decide) hx st1 (wd := fX5_isWord 102 114 101 101 115 0 0 0 F2) (fun i hx ta hb => word_ok hx ta hb (w := 1) (by decide))
  obtain ⟨v2, F4, a3, a3', st3, d3⟩ := mst_step hK hT (p := 2) (by decide) hx st2 (wd := fX5_isWord 100 114 97 119 115 0 0 0 F3) (fun i hx ta hb => word_ok hx ta hb (w := 2) (by decide))
  obtain ⟨r1, a11, a12⟩ := a1 b1
  have body : fX5_read (nI ρ) (nI q) τ = fX5_read_b125 (nI ρ) (nI q) F4 v0 v1 v2 := by
    have e0 : fX5_read (nI ρ) (nI q) τ = bn1 (fX5_next M0) fun σ6 => bn1 (fX5_isWord 103 111 101 115 0 0 0 0 σ6) fun r7 => bnd (fX5_part r7 σ6) fun r8 σ8 => if (σ8.1 0 27) = 0 then (bn1 (fX5_isWord 102 114 101 101 115 0 0 0 σ8) fun r9 => bnd (fX5_part r9 σ8) fun r10 σ10 => fX5_read_b91 (nI ρ) (nI q) σ10 r8 r10) else fX5_read_b91 (nI ρ) (nI q) σ8 r8 0 := by
      unfold fX5_read
      rw [t160 ρ hρ, stp_e, gd_of (inB_nI hρ (by decide)), rd_nI (by omega), putI_row _ _ _ _ (show (2 : Nat) ≠ 0 by decide), h2]
      rfl
    have e2 : ∀ y, (if (F2.1 0 27) = 0 then (bn1 (fX5_isWord 102 114 101 101 115 0 0 0 F2) fun r9 => bnd (fX5_part r9 F2) fun r10 σ10 => fX5_read_b91 (nI ρ) (nI q) σ10 y r10) else fX5_read_b91 (nI ρ) (nI q) F2 y 0) = fX5_read_b91 (nI ρ) (nI q) F3 y v1 := fun y => by
      by_cases z : F2.1 0 27 = 0
      · obtain ⟨r, y1, y2⟩ := a2 z
        rw [if_pos z, y1, bn1_s, y2, bnd_s]
      · obtain ⟨y1, y2⟩ := a2' z
        rw [if_neg z, y1, y2]
    have e3 : ∀ y z, fX5_read_b91 (nI ρ) (nI q) F3 y z = fX5_read_b125 (nI ρ) (nI q) F4 y z v2 := fun y z => by
      unfold fX5_read_b91
      by_cases w : F3.1 0 27 = 0
      · obtain ⟨r, y1, y2⟩ := a3 w
        rw [if_pos w, y1, bn1_s, y2, bnd_s]
      · obtain ⟨y1, y2⟩ := a3' w
        rw [if_neg w, y1, y2]
    rw [e0, n1, bn1_s, a11, bn1_s, a12, bnd_s, e2, e3]
  rw [body]
  obtain ⟨pf3, h3⟩ := st3
  rcases h3 with ⟨c1, c2, c3⟩ | ⟨c1, c2, c3, c4, c5⟩
  · refine ⟨_, F4, b125_no _ hq c2 _ _ _, s0.sq (pf_sy pf3), Or.inl ⟨?_, c2, c3⟩⟩
    unfold rok
    rw [c1]
    rfl
  · by_cases z : F4.1 0 23 = 0
    · refine ⟨_, F4, b125_end _ hq c2 z _ _ _, s0.sq (pf_sy pf3), Or.inr ⟨?_, c2, ?_⟩⟩
      · unfold rok
        rw [c1, (ta_end c4).mp z]
        rfl
      · have g2 : (rds (tk L n) K 2).1 = true := by
          cases h : (rds (tk L n) K 2).1
          · have := rds_stay h 1
            rw [show 2 + 1 = 3 from rfl] at this
            rw [this, h] at c1
            exact c1
          · rfl
        have g1 : (rds (tk L n) K 1).1 = true := by
          cases h : (rds (tk L n) K 1).1
          · have := rds_stay h 1
            rw [show 1 + 1 = 2 from rfl] at this
            rw [this, h] at g2
            exact g2
          · rfl
        obtain ⟨k0, x0, y0⟩ := d1 g1
        obtain ⟨k1, x1, y1⟩ := d2 g2
        obtain ⟨k2, x2, y2⟩ := d3 c1
        refine ⟨fun p => if p = 0 then k0 else if p = 1 then k1 else k2, fun p => sel p v0 v1 v2, fun p hp => ?_, rfl⟩
        rw [← oM]
        rcases (show p = 0 ∨ p = 1 ∨ p = 2 by omega) with rfl | rfl | rfl
        · exact ⟨x0, y0⟩
        · exact ⟨x1, y1⟩
        · exact ⟨x2, y2⟩
    · obtain ⟨F, f1, f2, f3, f4⟩ := b125_more (nI ρ) hq c2 z v0 v1 v2
      refine ⟨_, F, f1, s0.sq (pf_sy (pf3.tr f4)), Or.inl ⟨?_, by rw [f2]; decide, by rw [f3]; exact c4.1⟩⟩
      unfold rok
      rw [c1, Bool.true_and]
      exact beq_false_of_ne (fun y => z ((ta_end c4).mpr y))
end BOTH
