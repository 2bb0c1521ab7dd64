/-! ===== one thing of a floor set ===== -/
def setF (S : FS) (f : Nat) : FS := (sN S, sK S, sU S, sA S, sC S, sW S, f, sV S)
def setU (S : FS) (d u : Nat) : FS := (sN S, sK S, (fun e => if e = d then u else sU S e), sA S, sC S, sW S, sF S, sV S)
def setK (S : FS) (d k : Nat) : FS := (sN S, (fun e => if e = d then k else sK S e), sU S, sA S, sC S, sW S, sF S, sV S)
def setA1 (S : FS) (d : Nat) (o : Option Nat) : FS := setA S (fun e => if e = d then o else sA S e)
def setC1 (S : FS) (c : Nat) (v : Bool) : FS := (sN S, sK S, sU S, sA S, (fun e => if e = c then v else sC S e), sW S, sF S, sV S)
def setV (S : FS) (V : Nat → (Nat → Int32) → Int32) : FS := (sN S, sK S, sU S, sA S, sC S, sW S, sF S, V)
theorem tx_ne {b : Nat} (hb : isFl b) {σ : Mem} {j k : Nat} {v : Int32} (hj : b ≤ j ∧ j < b + 5) (t : Nat) (ht : t < 6) : (putI σ j k v).1 (9 + 4 * t) = σ.1 (9 + 4 * t) ∧ (putI σ j k v).1 (10 + 4 * t) = σ.1 (10 + 4 * t) := by
  have x := tx_fl hb ht
  exact ⟨putI_row _ _ _ _ (fun e => x.1 (j - b) (by omega) (by omega)), putI_row _ _ _ _ (fun e => x.2 (j - b) (by omega) (by omega))⟩
theorem putI_fld (σ : Mem) (j k : Nat) (v : Int32) {i : Nat} (h : i ≠ k) : (putI σ j k v).1 j i = σ.1 j i := by rw [putI_at, if_neg (fun q => h q.2)]
theorem putI_self (σ : Mem) (j k : Nat) (v : Int32) : (putI σ j k v).1 j k = v := by rw [putI_at, if_pos ⟨rfl, rfl⟩]
section CS
variable {σ : Mem} {b : Nat} {S : FS}
theorem CR.setW (hb : isFl b) (h : CR σ b S) {w : Nat} (hw : w ≤ 1100) : CR (putI σ b 4 (nI w)) b (setW S w) := by
  have tx := fun t ht => tx_ne (σ := σ) (j := b) (k := 4) (v := nI w) hb (by omega) t ht
  obtain ⟨h0, h1, h2, h3, h4, h5, ρ, hρ, h6, h7⟩ := h
  refine ⟨⟨h0.1, h0.2.1, hw, h0.2.2.2⟩, by rw [putI_fld _ _ _ _ (by decide)]; exact h1, putI_self .., by rw [putI_fld _ _ _ _ (by decide)]; exact h3, fun d hd => ?_, h5, ρ, hρ, by rw [putI_fld _ _ _ _ (by decide)]; exact h6, h7.mono (tx ρ hρ).1 (tx ρ hρ).2⟩
  rw [putI_row _ _ _ _ (by omega), putI_row _ _ _ _ (by omega), putI_row _ _ _ _ (by omega)]
  exact h4 d hd
theorem CR.setF (hb : isFl b) (h : CR σ b S) {f : Nat} (hf : f < 10) : CR (putI σ b 5 (nI f)) b (setF S f) := by
  have tx := fun t ht => tx_ne (σ := σ) (j := b) (k := 5) (v := nI f) hb (by omega) t ht
  obtain ⟨h0, h1, h2, h3, h4, h5, ρ, hρ, h6, h7⟩ := h
  refine ⟨⟨h0.1, h0.2.1, h0.2.2.1, hf⟩, by rw [putI_fld _ _ _ _ (by decide)]; exact h1, by rw [putI_fld _ _ _ _ (by decide)]; exact h2, putI_self .., fun d hd => ?_, h5, ρ, hρ, by rw [putI_fld _ _ _ _ (by decide)]; exact h6, h7.mono (tx ρ hρ).1 (tx ρ hρ).2⟩
  rw [putI_row _ _ _ _ (by omega), putI_row _ _ _ _ (by omega), putI_row _ _ _ _ (by omega)]
  exact h4 d hd
theorem CR.setV (hb : isFl b) (h : CR σ b S) {ρ : Nat} (hρ : ρ < 6) {V : Nat → (Nat → Int32) → Int32} (hV : TS σ ρ V) : CR (putI σ b 6 (nI ρ)) b (setV S V) := by
  have tx := fun t ht => tx_ne (σ := σ) (j := b) (k := 6) (v := nI ρ) hb (by omega) t ht
  obtain ⟨h0, h1, h2, h3, h4, h5, ρ', hρ', h6, h7⟩ := h
  refine ⟨h0, by rw [putI_fld _ _ _ _ (by decide)]; exact h1, by rw [putI_fld _ _ _ _ (by decide)]; exact h2, by rw [putI_fld _ _ _ _ (by decide)]; exact h3, fun d hd => ?_, h5, ρ, hρ, putI_self .., hV.mono (tx ρ hρ).1 (tx ρ hρ).2⟩
  rw [putI_row _ _ _ _ (by omega), putI_row _ _ _ _ (by omega), putI_row _ _ _ _ (by omega)]
  exact h4 d hd
theorem CR.setK (hb : isFl b) (h : CR σ b S) {d k : Nat} (hk : k < 6) : CR (putI σ (b + 1) d (nI k)) b (setK S d k) := by
  have tx := fun t ht => tx_ne (σ := σ) (j := b + 1) (k := d) (v := nI k) hb (by omega) t ht
  obtain ⟨h0, h1, h2, h3, h4, h5, ρ, hρ, h6, h7⟩ := h
  have r : ∀ i, (putI σ (b + 1) d (nI k)).1 b i = σ.1 b i := fun i => by rw [putI_row _ _ _ _ (by omega)]
  refine ⟨⟨h0.1, fun e he => ⟨?_, (h0.2.1 e he).2⟩, h0.2.2⟩, by rw [r]; exact h1, by rw [r]; exact h2, by rw [r]; exact h3, fun e he => ⟨?_, ?_, ?_⟩, h5, ρ, hρ, by rw [r]; exact h6, h7.mono (tx ρ hρ).1 (tx ρ hρ).2⟩
  · show (if e = d then k else sK S e) < 6
    split
    · exact hk
    · exact (h0.2.1 e he).1
  · rw [putI_at]
    show _ = nI (if e = d then k else sK S e)
    by_cases q : e = d
    · rw [if_pos ⟨rfl, q⟩, if_pos q]
    · rw [if_neg (fun z => q z.2), if_neg q]; exact (h4 e he).1
  · rw [putI_row _ _ _ _ (by omega)]; exact (h4 e he).2.1
  · rw [putI_row _ _ _ _ (by omega)]; exact (h4 e he).2.2
theorem CR.setU (hb : isFl b) (h : CR σ b S) {d k : Nat} (hk : k < 10) : CR (putI σ (b + 2) d (nI k)) b (setU S d k) := by
  have tx := fun t ht => tx_ne (σ := σ) (j := b + 2) (k := d) (v := nI k) hb (by omega) t ht
  obtain ⟨h0, h1, h2, h3, h4, h5, ρ, hρ, h6, h7⟩ := h
  have r : ∀ i, (putI σ (b + 2) d (nI k)).1 b i = σ.1 b i := fun i => by rw [putI_row _ _ _ _ (by omega)]
  refine ⟨⟨h0.1, fun e he => ⟨(h0.2.1 e he).1, ?_, (h0.2.1 e he).2.2⟩, h0.2.2⟩, by rw [r]; exact h1, by rw [r]; exact h2, by rw [r]; exact h3, fun e he => ⟨?_, ?_, ?_⟩, h5, ρ, hρ, by rw [r]; exact h6, h7.mono (tx ρ hρ).1 (tx ρ hρ).2⟩
  · show (if e = d then k else sU S e) < 10
    split
    · exact hk
    · exact (h0.2.1 e he).2.1
  · rw [putI_row _ _ _ _ (by omega)]; exact (h4 e he).1
  · rw [putI_at]
    show _ = nI (if e = d then k else sU S e)
    by_cases q : e = d
    · rw [if_pos ⟨rfl, q⟩, if_pos q]
    · rw [if_neg (fun z => q z.2), if_neg q]; exact (h4 e he).2.1
  · rw [putI_row _ _ _ _ (by omega)]; exact (h4 e he).2.2
theorem CR.setA1 (hb : isFl b) (h : CR σ b S) {d : Nat} {o : Option Nat} (ho : ∀ c, o = some c → c < 36) : CR (putI σ (b + 3) d (enc o)) b (setA1 S d o) := by
  have tx := fun t ht => tx_ne (σ := σ) (j := b + 3) (k := d) (v := enc o) hb (by omega) t ht
  obtain ⟨h0, h1, h2, h3, h4, h5, ρ, hρ, h6, h7⟩ := h
  have r : ∀ i, (putI σ (b + 3) d (enc o)).1 b i = σ.1 b i := fun i => by rw [putI_row _ _ _ _ (by omega)]
  refine ⟨okS_setA h0 (fun e he c hc => ?_), by rw [r]; exact h1, by rw [r]; exact h2, by rw [r]; exact h3, fun e he => ⟨?_, ?_, ?_⟩, h5, ρ, hρ, by rw [r]; exact h6, h7.mono (tx ρ hρ).1 (tx ρ hρ).2⟩
  · by_cases q : e = d
    · rw [if_pos q] at hc; exact ho c hc
    · rw [if_neg q] at hc; exact (h0.2.1 e he).2.2 c hc
  · rw [putI_row _ _ _ _ (by omega)]; exact (h4 e he).1
  · rw [putI_row _ _ _ _ (by omega)]; exact (h4 e he).2.1
  · rw [putI_at]
    show _ = enc (if e = d then o else sA S e)
    by_cases q : e = d
    · rw [if_pos ⟨rfl, q⟩, if_pos q]
    · rw [if_neg (fun z => q z.2), if_neg q]; exact (h4 e he).2.2
theorem CR.setC1 (hb : isFl b) (h : CR σ b S) {c : Nat} {v : Bool} {x : Int64} (hx : LB x (fun e => decide (e < 36) && (if e = c then v else sC S e))) : CR (putL σ b 3 x) b (setC1 S c v) := by
  obtain ⟨h0, h1, h2, h3, h4, h5, ρ, hρ, h6, h7⟩ := h
  refine ⟨h0, h1, h2, h3, h4, fun e he => ?_, ρ, hρ, h6, h7⟩
  rw [putL_at, if_pos ⟨rfl, rfl⟩]
  exact hx e he
end CS
theorem CR.lb {σ : Mem} {b : Nat} {S : FS} (h : CR σ b S) : LB (σ.2 b 3) (fun c => decide (c < 36) && sC S c) := h.2.2.2.2.2.1
theorem crackOn {σ : Mem} {b : Nat} {S : FS} (hb : isFl b) (h : CR σ b S) {c : Nat} (hc : c < 36) : CR (putL σ b 3 ((σ.2 b 3) ||| ((1 : Int64) <<< ((nI c).toInt64 &&& 63)))) b (setC1 S c true) :=
  h.setC1 hb ((h.lb.or hc).congr (fun i _ => by
    by_cases q : i = c
    · subst q; simp [hc]
    · simp [q]))
theorem crackOff {σ : Mem} {b : Nat} {S : FS} (hb : isFl b) (h : CR σ b S) {c : Nat} (hc : c < 36) : CR (putL σ b 3 ((σ.2 b 3) &&& (((1 : Int64) <<< ((nI c).toInt64 &&& 63)) ^^^ (-1)))) b (setC1 S c false) :=
  h.setC1 hb ((h.lb.off hc).congr (fun i _ => by
    by_cases q : i = c
    · subst q; simp
    · simp [q]))
section MS
variable {τ : Mem} {S : FS}
theorem MR.setW (h : MR τ S) {w : Nat} (hw : w ≤ 1100) : MR (putI τ 0 7 (nI w)) (setW S w) := by
  obtain ⟨h0, h1, h2, h3, h4, h5, ρ, hρ, h6, h7⟩ := h
  refine ⟨⟨h0.1, h0.2.1, hw, h0.2.2.2⟩, by rw [putI_fld _ _ _ _ (by decide)]; exact h1, putI_self .., by rw [putI_fld _ _ _ _ (by decide)]; exact h3, fun d hd => ?_, fun c hc => ?_, ρ, hρ, by rw [putI_fld _ _ _ _ (by decide)]; exact h6, h7.mono (fun i hi => by rw [putI_row _ _ _ _ (by decide)]) (by rw [putI_row _ _ _ _ (by decide)])⟩
  · rw [putI_row _ _ _ _ (by decide), putI_row _ _ _ _ (by decide), putI_row _ _ _ _ (by decide)]; exact h4 d hd
  · rw [putI_row _ _ _ _ (by decide)]; exact h5 c hc
theorem MR.setF (h : MR τ S) {f : Nat} (hf : f < 10) : MR (putI τ 0 8 (nI f)) (setF S f) := by
  obtain ⟨h0, h1, h2, h3, h4, h5, ρ, hρ, h6, h7⟩ := h
  refine ⟨⟨h0.1, h0.2.1, h0.2.2.1, hf⟩, by rw [putI_fld _ _ _ _ (by decide)]; exact h1, by rw [putI_fld _ _ _ _ (by decide)]; exact h2, putI_self .., fun d hd => ?_, fun c hc => ?_, ρ, hρ, by rw [putI_fld _ _ _ _ (by decide)]; exact h6, h7.mono (fun i hi => by rw [putI_row _ _ _ _ (by decide)]) (by rw [putI_row _ _ _ _ (by decide)])⟩
  · rw [putI_row _ _ _ _ (by decide), putI_row _ _ _ _ (by decide), putI_row _ _ _ _ (by decide)]; exact h4 d hd
  · rw [putI_row _ _ _ _ (by decide)]; exact h5 c hc
theorem MR.setV (h : MR τ S) {ρ : Nat} (hρ : ρ < 6) {V : Nat → (Nat → Int32) → Int32} (hV : MTS τ ρ V) : MR (putI τ 0 4 (nI ρ)) (setV S V) := by
  obtain ⟨h0, h1, h2, h3, h4, h5, ρ', hρ', h6, h7⟩ := h
  refine ⟨h0, by rw [putI_fld _ _ _ _ (by decide)]; exact h1, by rw [putI_fld _ _ _ _ (by decide)]; exact h2, by rw [putI_fld _ _ _ _ (by decide)]; exact h3, fun d hd => ?_, fun c hc => ?_, ρ, hρ, putI_self .., hV.mono (fun i hi => by rw [putI_row _ _ _ _ (by decide)]) (by rw [putI_row _ _ _ _ (by decide)])⟩
  · rw [putI_row _ _ _ _ (by decide), putI_row _ _ _ _ (by decide), putI_row _ _ _ _ (by decide)]; exact h4 d hd
  · rw [putI_row _ _ _ _ (by decide)]; exact h5 c hc
theorem MR.setK (h : MR τ S) {d k : Nat} (hk : k < 6) : MR (putI τ 5 d (nI k)) (setK S d k) := by
  obtain ⟨h0, h1, h2, h3, h4, h5, ρ, hρ, h6, h7⟩ := h
  have r : ∀ i, (putI τ 5 d (nI k)).1 0 i = τ.1 0 i := fun i => by rw [putI_row _ _ _ _ (by decide)]
  refine ⟨⟨h0.1, fun e he => ⟨?_, (h0.2.1 e he).2⟩, h0.2.2⟩, by rw [r]; exact h1, by rw [r]; exact h2, by rw [r]; exact h3, fun e he => ⟨?_, ?_, ?_⟩, fun c hc => ?_, ρ, hρ, by rw [r]; exact h6, h7.mono (fun i hi => by rw [putI_row _ _ _ _ (by decide)]) (by rw [putI_row _ _ _ _ (by decide)])⟩
  · show (if e = d then k else sK S e) < 6
    split
    · exact hk
    · exact (h0.2.1 e he).1
  · rw [putI_at]
    show _ = nI (if e = d then k else sK S e)
    by_cases q : e = d
    · rw [if_pos ⟨rfl, q⟩, if_pos q]
    · rw [if_neg (fun z => q z.2), if_neg q]; exact (h4 e he).1
  · rw [putI_row _ _ _ _ (by decide)]; exact (h4 e he).2.1
  · rw [putI_row _ _ _ _ (by decide)]; exact (h4 e he).2.2
  · rw [putI_row _ _ _ _ (by decide)]; exact h5 c hc
theorem MR.setU (h : MR τ S) {d k : Nat} (hk : k < 10) : MR (putI τ 6 d (nI k)) (setU S d k) := by
  obtain ⟨h0, h1, h2, h3, h4, h5, ρ, hρ, h6, h7⟩ := h
  have r : ∀ i, (putI τ 6 d (nI k)).1 0 i = τ.1 0 i := fun i => by rw [putI_row _ _ _ _ (by decide)]
  refine ⟨⟨h0.1, fun e he => ⟨(h0.2.1 e he).1, ?_, (h0.2.1 e he).2.2⟩, h0.2.2⟩, by rw [r]; exact h1, by rw [r]; exact h2, by rw [r]; exact h3, fun e he => ⟨?_, ?_, ?_⟩, fun c hc => ?_, ρ, hρ, by rw [r]; exact h6, h7.mono (fun i hi => by rw [putI_row _ _ _ _ (by decide)]) (by rw [putI_row _ _ _ _ (by decide)])⟩
  · show (if e = d then k else sU S e) < 10
    split
    · exact hk
    · exact (h0.2.1 e he).2.1
  · rw [putI_row _ _ _ _ (by decide)]; exact (h4 e he).1
  · rw [putI_at]
    show _ = nI (if e = d then k else sU S e)
    by_cases q : e = d
    · rw [if_pos ⟨rfl, q⟩, if_pos q]
    · rw [if_neg (fun z => q z.2), if_neg q]; exact (h4 e he).2.1
  · rw [putI_row _ _ _ _ (by decide)]; exact (h4 e he).2.2
  · rw [putI_row _ _ _ _ (by decide)]; exact h5 c hc
theorem MR.setA1 (h : MR τ S) {d : Nat} {o : Option Nat} (ho : ∀ c, o = some c → c < 36) : MR (putI τ 7 d (enc o)) (setA1 S d o) := by
  obtain ⟨h0, h1, h2, h3, h4, h5, ρ, hρ, h6, h7⟩ := h
  have r : ∀ i, (putI τ 7 d (enc o)).1 0 i = τ.1 0 i := fun i => by rw [putI_row _ _ _ _ (by decide)]
  refine ⟨okS_setA h0 (fun e he c hc => ?_), by rw [r]; exact h1, by rw [r]; exact h2, by rw [r]; exact h3, fun e he => ⟨?_, ?_, ?_⟩, fun c hc => ?_, ρ, hρ, by rw [r]; exact h6, h7.mono (fun i hi => by rw [putI_row _ _ _ _ (by decide)]) (by rw [putI_row _ _ _ _ (by decide)])⟩
  · by_cases q : e = d
    · rw [if_pos q] at hc; exact ho c hc
    · rw [if_neg q] at hc; exact (h0.2.1 e he).2.2 c hc
  · rw [putI_row _ _ _ _ (by decide)]; exact (h4 e he).1
  · rw [putI_row _ _ _ _ (by decide)]; exact (h4 e he).2.1
  · rw [putI_at]
    show _ = enc (if e = d then o else sA S e)
    by_cases q : e = d
    · rw [if_pos ⟨rfl, q⟩, if_pos q]
    · rw [if_neg (fun z => q z.2), if_neg q]; exact (h4 e he).2.2
  · rw [putI_row _ _ _ _ (by decide)]; exact h5 c hc
theorem MR.setC1 (h : MR τ S) {c : Nat} {v : Bool} {x : Int32} (hx : x = if v then 1 else 0) : MR (putI τ 4 c x) (setC1 S c v) := by
  obtain ⟨h0, h1, h2, h3, h4, h5, ρ, hρ, h6, h7⟩ := h
  have r : ∀ i, (putI τ 4 c x).1 0 i = τ.1 0 i := fun i => by rw [putI_row _ _ _ _ (by decide)]
  refine ⟨h0, by rw [r]; exact h1, by rw [r]; exact h2, by rw [r]; exact h3, fun e he => ?_, fun e he => ?_, ρ, hρ, by rw [r]; exact h6, h7.mono (fun i hi => by rw [putI_row _ _ _ _ (by decide)]) (by rw [putI_row _ _ _ _ (by decide)])⟩
  · rw [putI_row _ _ _ _ (by decide), putI_row _ _ _ _ (by decide), putI_row _ _ _ _ (by decide)]; exact h4 e he
  · rw [putI_at]
    show _ = if (if e = c then v else sC S e) = true then 1 else 0
    by_cases q : e = c
    · rw [if_pos ⟨rfl, q⟩, if_pos q, hx]
    · rw [if_neg (fun z => q z.2), if_neg q]; exact h5 e he
end MS
