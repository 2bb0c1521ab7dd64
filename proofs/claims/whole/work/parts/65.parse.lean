/-! ===== the model's parsing against the yard ===== -/
def lvR (w : Nat) : Nat := if w = 0 then 7 else if w = 1 then 6 else if w = 2 then 5 else if w = 3 then 3 else if w = 4 then 2 else 1
def lvP (w : Nat) : Nat := if w = 0 then 8 else if w = 1 then 6 else if w = 2 then 5 else if w = 3 then 4 else if w = 4 then 2 else 1
def pre (T : Nat → Int32) (w i : Nat) (W : List Int32) : Prop := lr W < lvP w ∧ (w ≤ 2 → T i = -8 → 4 ≤ lr W)
def endc (T : Nat → Int32) (w i : Nat) (W : List Int32) (o : Nat) (C : List Int32) : Prop := (1 ≤ w → T i ≠ -15) ∧ (2 ≤ w → T i ≠ -13 ∧ T i ≠ -14) ∧ (3 ≤ w → (T i = -16 ∨ T i = -17) → ∃ C1, ystep T (i, false, W, o, C) = .inr (false, i, C1)) ∧ (4 ≤ w → T i ≠ -7) ∧ (5 ≤ w → T i ≠ -6)
def Res (L : Nat → Nat) (n K w o i : Nat) (W C : List Int32) (τ : Mem) (x : Option (Int32 × Mem)) : Prop := ∃ v τ', x = some (v, τ') ∧ PF τ τ' ∧
  ((¬ τ'.1 0 27 = 0 ∧ ∃ j, i ≤ j ∧ j ≤ K ∧ τ'.1 0 28 = nI (ts L n j) ∧ Rfl (tk L n) (i, true, W, o, C) j)
  ∨ (τ'.1 0 27 = 0 ∧ ∃ i' W' c C', i < i' ∧ i' ≤ K ∧ TA τ' L n i' ∧ τ'.1 0 26 = nI o ∧ Rch (tk L n) (i, true, W, o, C) (i', false, W' ++ W, o + ngs W', C') ∧ (∀ t, t ∈ W' → lvR w ≤ rk t) ∧ W'.reverse ++ C' = c.reverse ++ C ∧ (∀ stk, evc (ofM τ) c stk = v :: stk) ∧ endc (tk L n) w i' (W' ++ W) (o + ngs W') C'))
def Clm (L : Nat → Nat) (n K ρ fuel w : Nat) : Prop := ∀ (o i : Nat) (W C : List Int32) (τ : Mem), 6 * (5 - o) + w + 1 ≤ fuel → o ≤ 5 → i ≤ K → TX τ ρ L n → TA τ L n i → τ.1 0 27 = 0 → τ.1 0 26 = nI o → pre (tk L n) w i W → Res L n K w o i W C τ (fX5_P fuel w τ)
theorem ofM_pf {τ τ' : Mem} (h : PF τ τ') : ofM τ' = ofM τ := by
  funext k
  unfold ofM
  by_cases q : k < 6
  · rw [if_pos q, if_pos q, h.2.1 _ (by omega)]
  · rw [if_neg q, if_neg q]
section PARSE
variable {L : Nat → Nat} {n K ρ : Nat}
theorem ta_nx {τ : Mem} {k : Nat} (h : TA τ L n k) (h1 : tk L n k ≠ -1) (h2 : tk L n k ≠ -2) : τ.1 0 22 = nI (tkp L n (k + 1)) := by
  obtain ⟨_, _, ht⟩ := h
  rcases ht with ⟨e1, _⟩ | ⟨e, _, _, _, _, e5, e6, _⟩ | ⟨v, _, _, _, _, e5⟩ | ⟨l, _, _, _, _, _, e6⟩ | ⟨e1, _⟩
  · exact absurd e1 h1
  · rw [e5, e6]
  · exact e5
  · exact e6
  · exact absurd e1 h2
theorem mnext {τ : Mem} {k : Nat} (hx : TX τ ρ L n) (h : TA τ L n k) (h1 : tk L n k ≠ -1) (h2 : tk L n k ≠ -2) : ∃ F, fX5_next τ = some F ∧ TA F L n (k + 1) ∧ NF τ F := next_ok hx (ta_nx h h1 h2)
theorem isSg {τ : Mem} {k : Nat} (ta : TA τ L n k) (hb : τ.1 0 27 = 0) (c : Nat) (hc : c < 256) {t : Int32} (ht : sg c = t) (h2 : t ≠ -2) : fX5_isSign (nI c) τ = some (if tk L n k = t then 1 else 0) := by
  subst ht
  exact sign_ok ta hb hc h2
/-- the looping levels -/
theorem loopC {fuel w : Nat} {b : (Mem × Int32 → Option (Int32 × Mem)) → Mem × Int32 → Option (Int32 × Mem)} {ops : Int32 → Bool} (hsub : Clm L n K ρ fuel w)
    (hrk : ∀ t, ops t = true → rk t = lvR (w + 1) ∧ jn t = true ∧ t ≠ -12 ∧ t ≠ -11 ∧ t ≠ -8 ∧ t ≠ -18 ∧ t ≠ -1 ∧ t ≠ -2 ∧ rk t ≠ 4 ∧ ¬ (0 : Int32) ≤ t) (hpre : ∀ i W t, ops t = true → pre (tk L n) w i (t :: W)) (hlv : lvR (w + 1) ≤ lvR w)
    (hend : ∀ i W o C, endc (tk L n) w i W o C → ¬ ops (tk L n i) = true → endc (tk L n) (w + 1) i W o C)
    (hbad : ∀ ih τ y, ¬ τ.1 0 27 = 0 → b ih (τ, y) = some (y, τ))
    (hex : ∀ ih τ y i, TX τ ρ L n → TA τ L n i → τ.1 0 27 = 0 → ¬ ops (tk L n i) = true → b ih (τ, y) = some (y, τ))
    (hgo : ∀ ih τ y i, TX τ ρ L n → TA τ L n i → τ.1 0 27 = 0 → ops (tk L n i) = true → ∀ τ1, fX5_next τ = some τ1 → ∀ v τ2, fX5_P fuel w τ1 = some (v, τ2) → b ih (τ, y) = ih (τ2, bop (tk L n i) y v))
    (hK : K ≤ 160) (hT : tk L n K = -1 ∨ tk L n K = -2)
    {o i : Nat} {W C : List Int32} {τ : Mem} (hf : 6 * (5 - o) + w + 1 ≤ fuel) (ho : o ≤ 5) (hx : TX τ ρ L n) (hW : W = [] ∨ lr W < lvR (w + 1)) :
    ∀ (m f i1 : Nat) (τ1 : Mem) (y : Int32) (W1 c1 C1 : List Int32), K - i1 ≤ m → m < f → i < i1 → i1 ≤ K → PF τ τ1 → TA τ1 L n i1 → τ1.1 0 27 = 0 → τ1.1 0 26 = nI o → Rch (tk L n) (i, true, W, o, C) (i1, false, W1 ++ W, o + ngs W1, C1) → (∀ t, t ∈ W1 → lvR (w + 1) ≤ rk t) → W1.reverse ++ C1 = c1.reverse ++ C → (∀ stk, evc (ofM τ) c1 stk = y :: stk) → endc (tk L n) w i1 (W1 ++ W) (o + ngs W1) C1 → Res L n K (w + 1) o i W C τ (loopN b f (τ1, y)) := by
  intro m
  induction m with
  | zero =>
    intro f i1 τ1 y W1 c1 C1 hm hf2 hi hiK hp ta hb h26 hr hrk1 hc hv he
    have e : i1 = K := by omega
    subst e
    cases f with
    | zero => omega
    | succ f =>
      have nop : ¬ ops (tk L n i1) = true := fun q => by
        have := hrk _ q
        rcases hT with z | z
        · exact this.2.2.2.2.2.2.1 z
        · exact this.2.2.2.2.2.2.2.1 z
      refine ⟨y, τ1, hex _ τ1 y i1 (hx.pf hp) ta hb nop, hp, Or.inr ⟨hb, i1, W1, c1, C1, hi, hiK, ta, h26, hr, hrk1, hc, hv, hend _ _ _ _ he nop⟩⟩
  | succ m ih =>
    intro f i1 τ1 y W1 c1 C1 hm hf2 hi hiK hp ta hb h26 hr hrk1 hc hv he
    cases f with
    | zero => omega
    | succ f =>
      by_cases q : ops (tk L n i1) = true
      · obtain ⟨r1, r2, r3, r4, r5, r6, r7, r8, r9, r10⟩ := hrk _ q
        have hlt : i1 < K := by
          rcases Nat.lt_or_ge i1 K with z | z
          · exact z
          · exfalso
            have e : i1 = K := by omega
            rw [e] at r7 r8
            rcases hT with y | y
            · exact r7 y
            · exact r8 y
        obtain ⟨τ2, n1, n2, n3⟩ := mnext (hx.pf hp) ta r7 r8
        have p2 : PF τ τ2 := hp.tr n3.pf
        have hg : lgo (lvR (w + 1)) (W1 ++ W) (o + ngs W1) C1 = (W, o, c1.reverse ++ C) := by rw [lgo_all W1 W o C1 hrk1 hW, hc]
        have hst : ystep (tk L n) (i1, false, W1 ++ W, o + ngs W1, C1) = .inl (i1 + 1, true, tk L n i1 :: W, o, c1.reverse ++ C) := by
          unfold ystep
          dsimp only
          rw [if_neg (by decide), if_neg r3, if_neg r4, if_pos r2, if_neg r9, r1, hg]
        have hr2 : Rch (tk L n) (i, true, W, o, C) (i1 + 1, true, tk L n i1 :: W, o, c1.reverse ++ C) := hr.tr (rch_1 hst rfl)
        obtain ⟨v, τ3, s1, s2, s3⟩ := hsub o (i1 + 1) (tk L n i1 :: W) (c1.reverse ++ C) τ2 hf ho hlt (hx.pf p2) n2 (by rw [n3.2.1 27 (by omega)]; exact hb) (by rw [n3.2.1 26 (by omega)]; exact h26) (hpre _ _ _ q)
        have step := hgo (loopN b f) τ1 y i1 (hx.pf hp) ta hb q τ2 n1 v τ3 s1
        show Res L n K (w + 1) o i W C τ (b (loopN b f) (τ1, y))
        rw [step]
        have p3 : PF τ τ3 := p2.tr s2
        rcases s3 with ⟨b1, j, j1, j2, j3, j4⟩ | ⟨g1, i2, W2, c2, C2, g2, g3, g4, g5, g6, g7, g8, g9, g10⟩
        · cases f with
          | zero => omega
          | succ f =>
            exact ⟨bop (tk L n i1) y v, τ3, hbad _ τ3 _ b1, p3, Or.inl ⟨b1, j, by omega, j2, j3, hr2.fl j4⟩⟩
        · have eo : o + ngs W2 = o + ngs (W2 ++ [tk L n i1]) := by
            rw [ngs_app]
            simp only [ngs]
            rw [if_neg (fun z => z.elim r5 r6)]
            rfl
          have ew : W2 ++ (tk L n i1 :: W) = (W2 ++ [tk L n i1]) ++ W := by simp
          rw [eo, ew] at g6 g10
          refine ih f i2 τ3 (bop (tk L n i1) y v) (W2 ++ [tk L n i1]) (c1 ++ c2 ++ [tk L n i1]) C2 (by omega) (by omega) (by omega) g3 p3 g4 g1 g5 (hr2.tr g6) (fun t ht => ?_) ?_ (fun stk => ?_) g10
          · rcases List.mem_append.mp ht with z | z
            · exact Nat.le_trans hlv (g7 t z)
            · rw [List.mem_singleton.mp z, r1]; exact Nat.le_refl _
          · rw [List.reverse_append, List.reverse_append, List.reverse_append]
            simp only [List.reverse_singleton, List.singleton_append, List.cons_append, List.nil_append]
            rw [g8, List.append_assoc]
          · rw [evc_app, evc_app, hv]
            have := g9 (y :: stk)
            rw [ofM_pf p2] at this
            rw [this, evc_one]
            unfold estep
            rw [if_neg r10, if_neg r5, if_neg r6]
      · exact ⟨y, τ1, hex _ τ1 y i1 (hx.pf hp) ta hb q, hp, Or.inr ⟨hb, i1, W1, c1, C1, hi, hiK, ta, h26, hr, hrk1, hc, hv, hend _ _ _ _ he q⟩⟩
theorem Res.up {w w' o i : Nat} {W C : List Int32} {τ : Mem} {x y : Option (Int32 × Mem)} (h : Res L n K w o i W C τ x) (hbad : ∀ v τ', x = some (v, τ') → ¬ τ'.1 0 27 = 0 → ∃ v', y = some (v', τ')) (hgood : ∀ v τ', x = some (v, τ') → τ'.1 0 27 = 0 → PF τ τ' → (∃ i' W' c C', i < i' ∧ i' ≤ K ∧ TA τ' L n i' ∧ τ'.1 0 26 = nI o ∧ Rch (tk L n) (i, true, W, o, C) (i', false, W' ++ W, o + ngs W', C') ∧ (∀ t, t ∈ W' → lvR w ≤ rk t) ∧ W'.reverse ++ C' = c.reverse ++ C ∧ (∀ stk, evc (ofM τ) c stk = v :: stk) ∧ endc (tk L n) w i' (W' ++ W) (o + ngs W') C') → Res L n K w' o i W C τ y) : Res L n K w' o i W C τ y := by
  obtain ⟨v, τ', h1, h2, h3⟩ := h
  rcases h3 with ⟨b1, b2⟩ | ⟨g1, g2⟩
  · obtain ⟨v', hv⟩ := hbad v τ' h1 b1
    exact ⟨v', τ', hv, h2, Or.inl ⟨b1, b2⟩⟩
  · exact hgood v τ' h1 g1 h2 g2
/-- a level that loops, out of its sublevel -/
theorem level {fuel w : Nat} {b : (Mem × Int32 → Option (Int32 × Mem)) → Mem × Int32 → Option (Int32 × Mem)} {ops : Int32 → Bool} (hP : ∀ τ, fX5_P (fuel + 1) (w + 1) τ = bnd (fX5_P fuel w τ) fun r1 σ1 => loopN b 1000 (σ1, r1)) (hsub : Clm L n K ρ fuel w)
    (hrk : ∀ t, ops t = true → rk t = lvR (w + 1) ∧ jn t = true ∧ t ≠ -12 ∧ t ≠ -11 ∧ t ≠ -8 ∧ t ≠ -18 ∧ t ≠ -1 ∧ t ≠ -2 ∧ rk t ≠ 4 ∧ ¬ (0 : Int32) ≤ t) (hpre : ∀ i W t, ops t = true → pre (tk L n) w i (t :: W)) (hlv : lvR (w + 1) ≤ lvR w) (hpW : ∀ i W, pre (tk L n) (w + 1) i W → pre (tk L n) w i W ∧ lr W < lvR (w + 1))
    (hend : ∀ i W o C, endc (tk L n) w i W o C → ¬ ops (tk L n i) = true → endc (tk L n) (w + 1) i W o C)
    (hbad : ∀ ih τ y, ¬ τ.1 0 27 = 0 → b ih (τ, y) = some (y, τ))
    (hex : ∀ ih τ y i, TX τ ρ L n → TA τ L n i → τ.1 0 27 = 0 → ¬ ops (tk L n i) = true → b ih (τ, y) = some (y, τ))
    (hgo : ∀ ih τ y i, TX τ ρ L n → TA τ L n i → τ.1 0 27 = 0 → ops (tk L n i) = true → ∀ τ1, fX5_next τ = some τ1 → ∀ v τ2, fX5_P fuel w τ1 = some (v, τ2) → b ih (τ, y) = ih (τ2, bop (tk L n i) y v))
    (hK : K ≤ 160) (hT : tk L n K = -1 ∨ tk L n K = -2) : Clm L n K ρ (fuel + 1) (w + 1) := by
  intro o i W C τ hf ho hi hx ta hb h26 hp
  obtain ⟨p1, p2⟩ := hpW i W hp
  have hs := hsub o i W C τ (by omega) ho hi hx ta hb h26 p1
  rw [hP]
  refine hs.up (fun v τ' e hbd => ⟨v, ?_⟩) (fun v τ' e g1 pf hg => ?_)
  · rw [e, bnd_s]
    exact hbad _ τ' v hbd
  · obtain ⟨i1, W1, c1, C1, a1, a2, a3, a4, a5, a6, a7, a8, a9⟩ := hg
    rw [e, bnd_s]
    exact loopC hsub hrk hpre hlv hend hbad hex hgo hK hT (by omega) ho hx (Or.inr p2) 160 1000 i1 τ' v W1 c1 C1 (by omega) (by omega) a1 a2 pf a3 g1 a4 a5 (fun t ht => Nat.le_trans hlv (a6 t ht)) a7 a8 a9
end PARSE
