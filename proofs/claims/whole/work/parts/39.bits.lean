/-! ===== bits of a long ===== -/
def LB (x : Int64) (p : Nat → Bool) : Prop := ∀ i, i < 64 → x.toBitVec.getLsbD i = p i
theorem LB.eq {x y : Int64} {p : Nat → Bool} (h : LB x p) (h' : LB y p) : x = y := by
  apply Int64.toBitVec_inj.mp
  apply BitVec.eq_of_getLsbD_eq
  intro i hi
  rw [h i hi, h' i hi]
theorem LB.congr {x : Int64} {p q : Nat → Bool} (h : LB x p) (e : ∀ i, i < 64 → p i = q i) : LB x q := fun i hi => (h i hi).trans (e i hi)
theorem LB_0 : LB 0 (fun _ => false) := fun i _ => by
  show (0#64).getLsbD i = false
  simp
theorem sh1_b : ∀ c, c < 36 → ∀ i, i < 64 → ((1 : Int64) <<< ((nI c).toInt64 &&& 63)).toBitVec.getLsbD i = (i == c) := by decide +kernel
theorem sh1_n : ∀ c, c < 36 → ∀ i, i < 64 → (((1 : Int64) <<< ((nI c).toInt64 &&& 63)) ^^^ (-1)).toBitVec.getLsbD i = !(i == c) := by decide +kernel
theorem LB.or {x : Int64} {p : Nat → Bool} (h : LB x p) {c : Nat} (hc : c < 36) : LB (x ||| ((1 : Int64) <<< ((nI c).toInt64 &&& 63))) (fun i => p i || i == c) := fun i hi => by
  show (x.toBitVec ||| ((1 : Int64) <<< ((nI c).toInt64 &&& 63)).toBitVec).getLsbD i = _
  rw [BitVec.getLsbD_or, h i hi, sh1_b c hc i hi]
theorem LB.or0 {x : Int64} {p : Nat → Bool} (h : LB x p) : LB (x ||| 0) p := fun i hi => by
  show (x.toBitVec ||| 0#64).getLsbD i = _
  rw [BitVec.getLsbD_or, h i hi]
  simp
theorem LB.off {x : Int64} {p : Nat → Bool} (h : LB x p) {c : Nat} (hc : c < 36) : LB (x &&& (((1 : Int64) <<< ((nI c).toInt64 &&& 63)) ^^^ (-1))) (fun i => p i && !(i == c)) := fun i hi => by
  show (x.toBitVec &&& (((1 : Int64) <<< ((nI c).toInt64 &&& 63)) ^^^ (-1)).toBitVec).getLsbD i = _
  rw [BitVec.getLsbD_and, h i hi, sh1_n c hc i hi]
/-! bits of a long counted -/
def by8 : List Nat → Nat
  | [] => 0
  | b :: l => 256 * by8 l + b
def mk8 (m : Nat) : Nat → Nat
  | 0 => 0
  | k + 1 => 256 * mk8 m k + m
theorem and256 {a b c d : Nat} (hb : b < 256) (hd : d < 256) : (256 * a + b) &&& (256 * c + d) = 256 * (a &&& c) + (b &&& d) := by
  have hbd : b &&& d < 256 := Nat.lt_of_le_of_lt Nat.and_le_left hb
  apply Nat.eq_of_testBit_eq
  intro i
  rw [Nat.testBit_and, show (256 : Nat) = 2 ^ 8 from rfl, Nat.testBit_two_pow_mul_add a (by omega) i, Nat.testBit_two_pow_mul_add c (by omega) i, Nat.testBit_two_pow_mul_add (a &&& c) (by omega) i]
  by_cases hi : i < 8
  · rw [if_pos hi, if_pos hi, if_pos hi, Nat.testBit_and]
  · rw [if_neg hi, if_neg hi, if_neg hi, Nat.testBit_and]
def g1 (b : Nat) : Nat := b - ((b / 2) &&& 85)
def g2 (b : Nat) : Nat := (b &&& 51) + ((b / 4) &&& 51)
def g3 (b : Nat) : Nat := (b + b / 16) &&& 15
theorem g1_t : ∀ b, b < 256 → ∀ a, a < 2 → (128 * a + b / 2) &&& 85 = (b / 2) &&& 85 := by decide +kernel
theorem g2_t : ∀ b, b < 256 → ∀ a, a < 4 → (64 * a + b / 4) &&& 51 = (b / 4) &&& 51 := by decide +kernel
theorem g3_t : ∀ b, b < 256 → b % 16 ≤ 4 → b / 16 ≤ 4 → ∀ a, a < 5 → (b + 16 * a + b / 16) &&& 15 = (b + b / 16) &&& 15 := by decide +kernel
theorem g12_b : ∀ b, b < 256 → g1 b < 256 ∧ g2 (g1 b) < 256 ∧ g2 (g1 b) % 16 ≤ 4 ∧ g2 (g1 b) / 16 ≤ 4 ∧ g3 (g2 (g1 b)) = pc8 b ∧ pc8 b ≤ 8 := by decide +kernel
theorem s1_ok : ∀ l : List Nat, (∀ b ∈ l, b < 256) → (by8 l / 2) &&& mk8 85 l.length ≤ by8 l ∧ by8 l - ((by8 l / 2) &&& mk8 85 l.length) = by8 (l.map g1)
  | [], _ => ⟨Nat.le_trans Nat.and_le_left (by simp [by8]), by simp [by8]⟩
  | b :: l, h => by
    obtain ⟨i1, i2⟩ := s1_ok l (fun x hx => h x (List.mem_cons_of_mem _ hx))
    have hb := h b (List.mem_cons_self ..)
    have e : (256 * by8 l + b) / 2 = 256 * (by8 l / 2) + (128 * (by8 l % 2) + b / 2) := by omega
    have e2 : ((256 * by8 l + b) / 2) &&& (256 * mk8 85 l.length + 85) = 256 * ((by8 l / 2) &&& mk8 85 l.length) + ((b / 2) &&& 85) := by
      rw [e, and256 (by omega) (by omega), g1_t b hb _ (by omega)]
    have e3 : (b / 2) &&& 85 ≤ b / 2 := Nat.and_le_left
    simp only [by8, mk8, List.length_cons, List.map_cons]
    rw [e2]
    have g : g1 b = b - ((b / 2) &&& 85) := rfl
    omega
theorem s2_ok : ∀ l : List Nat, (∀ b ∈ l, b < 256) → (by8 l &&& mk8 51 l.length) + ((by8 l / 4) &&& mk8 51 l.length) = by8 (l.map g2)
  | [], _ => by simp [by8]
  | b :: l, h => by
    have i2 := s2_ok l (fun x hx => h x (List.mem_cons_of_mem _ hx))
    have hb := h b (List.mem_cons_self ..)
    have e : (256 * by8 l + b) / 4 = 256 * (by8 l / 4) + (64 * (by8 l % 4) + b / 4) := by omega
    have e2 : ((256 * by8 l + b) / 4) &&& (256 * mk8 51 l.length + 51) = 256 * ((by8 l / 4) &&& mk8 51 l.length) + ((b / 4) &&& 51) := by
      rw [e, and256 (by omega) (by omega), g2_t b hb _ (by omega)]
    have e3 : (256 * by8 l + b) &&& (256 * mk8 51 l.length + 51) = 256 * (by8 l &&& mk8 51 l.length) + (b &&& 51) := and256 hb (by omega)
    simp only [by8, mk8, List.length_cons, List.map_cons]
    rw [e2, e3, ← i2]
    unfold g2
    omega
theorem s3_ok : ∀ l : List Nat, (∀ b ∈ l, b < 256 ∧ b % 16 ≤ 4 ∧ b / 16 ≤ 4) → by8 l % 16 ≤ 4 ∧ (by8 l + by8 l / 16) &&& mk8 15 l.length = by8 (l.map g3)
  | [], _ => by simp [by8]
  | b :: l, h => by
    obtain ⟨i1, i2⟩ := s3_ok l (fun x hx => h x (List.mem_cons_of_mem _ hx))
    obtain ⟨hb, h1, h2⟩ := h b (List.mem_cons_self ..)
    have e : (256 * by8 l + b) + (256 * by8 l + b) / 16 = 256 * (by8 l + by8 l / 16) + (b + 16 * (by8 l % 16) + b / 16) := by omega
    simp only [by8, mk8, List.length_cons, List.map_cons]
    refine ⟨by omega, ?_⟩
    rw [e, and256 (by omega) (by omega), i2, g3_t b hb h1 h2 _ (by omega)]
    rfl
def sl : List Nat → Nat
  | [] => 0
  | b :: l => sl l + b
def bl : Nat → Nat → List Nat
  | 0, _ => []
  | k + 1, n => n % 256 :: bl k (n / 256)
theorem bl_len : ∀ k n, (bl k n).length = k
  | 0, _ => rfl
  | k + 1, n => by simp [bl, bl_len k]
theorem bl_lt : ∀ k n, ∀ b ∈ bl k n, b < 256
  | 0, n, b, h => by simp [bl] at h
  | k + 1, n, b, h => by
    simp only [bl, List.mem_cons] at h
    rcases h with rfl | h
    · omega
    · exact bl_lt k _ b h
theorem by8_bl : ∀ k n, n < 256 ^ k → by8 (bl k n) = n
  | 0, n, h => by simp at h; simp [bl, by8, h]
  | k + 1, n, h => by
    simp only [bl, by8]
    rw [by8_bl k (n / 256) (by rw [Nat.pow_succ] at h; omega)]
    omega
theorem mkb_mod (n : Nat) : ∀ k, mkb (fun i => n.testBit i) k = n % 2 ^ k
  | 0 => by simp [mkb, Nat.mod_one]
  | k + 1 => by
    have e := Nat.testBit_eq_decide_div_mod_eq (x := n) (i := k)
    show mkb (fun i => n.testBit i) k + (if n.testBit k = true then 2 ^ k else 0) = _
    rw [mkb_mod n k, Nat.mod_pow_succ]
    by_cases q : n / 2 ^ k % 2 = 1
    · rw [if_pos (by rw [e]; simp [q]), q, Nat.mul_one]
    · have q0 : n / 2 ^ k % 2 = 0 := by omega
      rw [if_neg (by rw [e]; simp [q]), q0, Nat.mul_zero]
theorem cnt_add (p : Nat → Bool) (a : Nat) : ∀ b, cnt p (a + b) = cnt p a + cnt (fun i => p (a + i)) b
  | 0 => rfl
  | b + 1 => by
    rw [show a + (b + 1) = (a + b) + 1 from rfl]
    simp only [cnt]
    rw [cnt_add p a b]
    omega
theorem sl_bl : ∀ k n, sl ((bl k n).map pc8) = cnt (fun i => n.testBit i) (8 * k)
  | 0, _ => rfl
  | k + 1, n => by
    simp only [bl, List.map_cons, sl]
    rw [sl_bl k (n / 256), show 8 * (k + 1) = 8 + 8 * k by omega, cnt_add]
    have e1 : pc8 (n % 256) = cnt (fun i => n.testBit i) 8 := by
      rw [← pc8_mkb _ 8 (by omega), mkb_mod]
    have e2 : cnt (fun i => (n / 256).testBit i) (8 * k) = cnt (fun i => n.testBit (8 + i)) (8 * k) := cnt_congr _ (fun i _ => by
      rw [show (256 : Nat) = 2 ^ 8 from rfl, Nat.testBit_div_two_pow, Nat.add_comm])
    rw [e1, e2]
    omega
theorem sum8 (p0 p1 p2 p3 p4 p5 p6 p7 n : Nat) (h0 : p0 ≤ 8) (h1 : p1 ≤ 8) (h2 : p2 ≤ 8) (h3 : p3 ≤ 8) (h4 : p4 ≤ 8) (h5 : p5 ≤ 8) (h6 : p6 ≤ 8) (h7 : p7 ≤ 8) (hn : n = by8 [p0, p1, p2, p3, p4, p5, p6, p7]) : ∃ n4 n5 n6, n4 = n + n / 256 ∧ n5 = n4 + n4 / 65536 ∧ n6 = n5 + n5 / 4294967296 ∧ n4 < 18446744073709551616 ∧ n5 < 18446744073709551616 ∧ n6 < 18446744073709551616 ∧ n6 % 128 = p0 + p1 + p2 + p3 + p4 + p5 + p6 + p7 := by
  obtain ⟨Q7, e7⟩ : ∃ q, q = by8 [p7] := ⟨_, rfl⟩
  obtain ⟨Q6, e6⟩ : ∃ q, q = by8 [p6, p7] := ⟨_, rfl⟩
  obtain ⟨Q5, e5⟩ : ∃ q, q = by8 [p5, p6, p7] := ⟨_, rfl⟩
  obtain ⟨Q4, e4⟩ : ∃ q, q = by8 [p4, p5, p6, p7] := ⟨_, rfl⟩
  obtain ⟨Q3, e3⟩ : ∃ q, q = by8 [p3, p4, p5, p6, p7] := ⟨_, rfl⟩
  obtain ⟨Q2, e2⟩ : ∃ q, q = by8 [p2, p3, p4, p5, p6, p7] := ⟨_, rfl⟩
  obtain ⟨Q1, e1⟩ : ∃ q, q = by8 [p1, p2, p3, p4, p5, p6, p7] := ⟨_, rfl⟩
  have f7 : Q7 = p7 := by rw [e7]; show 256 * 0 + p7 = p7; omega
  have f6 : Q6 = 256 * Q7 + p6 := by rw [e6, e7]; rfl
  have f5 : Q5 = 256 * Q6 + p5 := by rw [e5, e6]; rfl
  have f4 : Q4 = 256 * Q5 + p4 := by rw [e4, e5]; rfl
  have f3 : Q3 = 256 * Q4 + p3 := by rw [e3, e4]; rfl
  have f2 : Q2 = 256 * Q3 + p2 := by rw [e2, e3]; rfl
  have f1 : Q1 = 256 * Q2 + p1 := by rw [e1, e2]; rfl
  have f0 : n = 256 * Q1 + p0 := by rw [hn, e1]; rfl
  clear e1 e2 e3 e4 e5 e6 e7 hn
  have b7 : Q7 ≤ 8 := by omega
  have b6 : Q6 ≤ 2056 := by omega
  have b5 : Q5 ≤ 526344 := by omega
  have b4 : Q4 ≤ 134744072 := by omega
  have b3 : Q3 ≤ 34494482440 := by omega
  have b2 : Q2 ≤ 8830587504648 := by omega
  have b1 : Q1 ≤ 2260630401189896 := by omega
  have b0 : n ≤ 578721382704613384 := by omega
  have d1 : n / 256 = Q1 := by omega
  have d2 : (n + Q1) / 65536 = Q2 + Q3 := by
    have g0 : n = 65536 * Q2 + (256 * p1 + p0) := by omega
    have g1 : Q1 = 65536 * Q3 + (256 * p2 + p1) := by omega
    clear f0 f1 f2 f3 f4 f5 f6 f7
    omega
  have l0 : ∃ l, n = 4294967296 * Q4 + l ∧ l ≤ 134744072 := ⟨16777216 * p3 + 65536 * p2 + 256 * p1 + p0, by omega, by omega⟩
  have l1 : ∃ l, Q1 = 4294967296 * Q5 + l ∧ l ≤ 134744072 := ⟨16777216 * p4 + 65536 * p3 + 256 * p2 + p1, by omega, by omega⟩
  have l2 : ∃ l, Q2 = 4294967296 * Q6 + l ∧ l ≤ 134744072 := ⟨16777216 * p5 + 65536 * p4 + 256 * p3 + p2, by omega, by omega⟩
  have l3 : ∃ l, Q3 = 4294967296 * Q7 + l ∧ l ≤ 134744072 := ⟨16777216 * p6 + 65536 * p5 + 256 * p4 + p3, by omega, by omega⟩
  have d3 : (n + Q1 + (Q2 + Q3)) / 4294967296 = Q4 + Q5 + Q6 + Q7 := by
    obtain ⟨x0, y0, z0⟩ := l0
    obtain ⟨x1, y1, z1⟩ := l1
    obtain ⟨x2, y2, z2⟩ := l2
    obtain ⟨x3, y3, z3⟩ := l3
    clear f0 f1 f2 f3 f4 f5 f6 f7 d1 d2 b0 b1 b2 b3 b4 b5 b6 b7
    omega
  refine ⟨n + Q1, n + Q1 + (Q2 + Q3), n + Q1 + (Q2 + Q3) + (Q4 + Q5 + Q6 + Q7), by rw [d1], by rw [d2], by rw [d3], by omega, by omega, by omega, ?_⟩
  clear l0 l1 l2 l3 d1 d2 d3 b0 b1 b2 b3 b4 b5 b6 b7
  omega
def sN64 (x : Int64) : Nat := x.toBitVec.toNat
theorem sN64_lt (x : Int64) : sN64 x < 18446744073709551616 := x.toBitVec.isLt
def us (x : Int64) (k : Int32) : Int64 := (x.toUInt64 >>> (k.toInt64.toUInt64 &&& Int64.toUInt64 63)).toInt64
theorem us_n (x : Int64) {k : Int32} {j : Nat} (h : (k.toInt64.toUInt64 &&& Int64.toUInt64 63).toBitVec % 64#64 = BitVec.ofNat 64 j) (hj : j < 64) : sN64 (us x k) = sN64 x / 2 ^ j := by
  show (x.toBitVec >>> ((k.toInt64.toUInt64 &&& Int64.toUInt64 63).toBitVec % 64#64)).toNat = _
  rw [h, BitVec.ushiftRight_eq', BitVec.toNat_ushiftRight, Nat.shiftRight_eq_div_pow]
  have : (BitVec.ofNat 64 j).toNat = j := by rw [BitVec.toNat_ofNat]; omega
  rw [this]
  rfl
theorem and_n (x y : Int64) : sN64 (x &&& y) = sN64 x &&& sN64 y := BitVec.toNat_and ..
theorem add_n {x y : Int64} (h : sN64 x + sN64 y < 18446744073709551616) : sN64 (x + y) = sN64 x + sN64 y := by
  show (x.toBitVec + y.toBitVec).toNat = _
  rw [BitVec.toNat_add]
  exact Nat.mod_eq_of_lt h
theorem sub_n {x y : Int64} (h : sN64 y ≤ sN64 x) : sN64 (x - y) = sN64 x - sN64 y := by
  show (x.toBitVec - y.toBitVec).toNat = _
  exact BitVec.toNat_sub_of_le h
theorem bitCount_n (x : Int64) (σ : Mem) : fJ13_bitCount_95d88 x σ = some (nI (cnt (fun i => x.toBitVec.getLsbD i) 64)) := by
  have hb : fJ13_bitCount_95d88 x σ = (let y := x - (us x 1 &&& 6148914691236517205); let z := (y &&& 3689348814741910323) + (us y 2 &&& 3689348814741910323); let u := (z + us z 4) &&& 1085102592571150095; let v := u + us u 8; let w := v + us v 16; some ((w + us w 32).toInt32 &&& 127)) := rfl
  rw [hb]
  obtain ⟨y, hy⟩ : ∃ y, y = x - (us x 1 &&& 6148914691236517205) := ⟨_, rfl⟩
  obtain ⟨z, hz⟩ : ∃ z, z = (y &&& 3689348814741910323) + (us y 2 &&& 3689348814741910323) := ⟨_, rfl⟩
  obtain ⟨u, hu⟩ : ∃ u, u = (z + us z 4) &&& 1085102592571150095 := ⟨_, rfl⟩
  obtain ⟨v, hv⟩ : ∃ v, v = u + us u 8 := ⟨_, rfl⟩
  obtain ⟨w, hw⟩ : ∃ w, w = v + us v 16 := ⟨_, rfl⟩
  obtain ⟨t, ht⟩ : ∃ t, t = w + us w 32 := ⟨_, rfl⟩
  dsimp only
  rw [← hy, ← hz, ← hu, ← hv, ← hw, ← ht]
  have hn := sN64_lt x
  have e0 : by8 (bl 8 (sN64 x)) = sN64 x := by8_bl 8 _ (by simpa using hn)
  obtain ⟨l, hl⟩ : ∃ l, l = bl 8 (sN64 x) := ⟨_, rfl⟩
  have hlen : l.length = 8 := by rw [hl, bl_len]
  have hlt : ∀ b ∈ l, b < 256 := by rw [hl]; exact bl_lt 8 _
  rw [← hl] at e0
  have e1 : sN64 y = by8 (l.map g1) := by
    obtain ⟨a1, a2⟩ := s1_ok l hlt
    rw [hlen, e0, show mk8 85 8 = 6148914691236517205 from rfl] at a1 a2
    have q : sN64 (us x 1 &&& 6148914691236517205) = (sN64 x / 2) &&& 6148914691236517205 := by
      rw [and_n, us_n x (j := 1) (by decide) (by decide)]
      rfl
    rw [hy, sub_n (by rw [q]; exact a1), q, a2]
  have l1 : ∀ b ∈ l.map g1, b < 256 := fun b hb => by
    obtain ⟨c, hc, rfl⟩ := List.mem_map.mp hb
    exact (g12_b c (hlt c hc)).1
  have e2 : sN64 z = by8 ((l.map g1).map g2) := by
    have a := s2_ok (l.map g1) l1
    rw [List.length_map, hlen, ← e1, show mk8 51 8 = 3689348814741910323 from rfl] at a
    have q1 : sN64 (y &&& 3689348814741910323) = sN64 y &&& 3689348814741910323 := by rw [and_n]; rfl
    have q2 : sN64 (us y 2 &&& 3689348814741910323) = (sN64 y / 4) &&& 3689348814741910323 := by
      rw [and_n, us_n y (j := 2) (by decide) (by decide)]
      rfl
    have r1 : sN64 y &&& 3689348814741910323 ≤ 3689348814741910323 := Nat.and_le_right
    have r2 : (sN64 y / 4) &&& 3689348814741910323 ≤ 3689348814741910323 := Nat.and_le_right
    rw [hz, add_n (by rw [q1, q2]; omega), q1, q2, a]
  have l2 : ∀ b ∈ (l.map g1).map g2, b < 256 ∧ b % 16 ≤ 4 ∧ b / 16 ≤ 4 := fun b hb => by
    rw [List.map_map] at hb
    obtain ⟨c, hc, rfl⟩ := List.mem_map.mp hb
    have := g12_b c (hlt c hc)
    exact ⟨this.2.1, this.2.2.1, this.2.2.2.1⟩
  have e3 : sN64 u = by8 (l.map pc8) := by
    obtain ⟨-, a⟩ := s3_ok ((l.map g1).map g2) l2
    rw [List.length_map, List.length_map, hlen, ← e2, show mk8 15 8 = 1085102592571150095 from rfl] at a
    have q2 : sN64 (us z 4) = sN64 z / 16 := us_n z (j := 4) (by decide) (by decide)
    have r : sN64 z ≤ 7378697629483820646 := by
      have q1 : sN64 (y &&& 3689348814741910323) = sN64 y &&& 3689348814741910323 := by rw [and_n]; rfl
      have q2 : sN64 (us y 2 &&& 3689348814741910323) = sN64 (us y 2) &&& 3689348814741910323 := by rw [and_n]; rfl
      have r1 : sN64 y &&& 3689348814741910323 ≤ 3689348814741910323 := Nat.and_le_right
      have r2 : sN64 (us y 2) &&& 3689348814741910323 ≤ 3689348814741910323 := Nat.and_le_right
      rw [hz, add_n (by rw [q1, q2]; omega), q1, q2]
      omega
    have q3 : sN64 u = (sN64 z + sN64 z / 16) &&& 1085102592571150095 := by
      rw [hu, and_n, add_n (by rw [q2]; omega), q2]
      rfl
    rw [q3, a, List.map_map, List.map_map]
    congr 1
    exact List.map_congr_left (fun c hc => (g12_b c (hlt c hc)).2.2.2.2.1)
  have es : sl (l.map pc8) = cnt (fun i => x.toBitVec.getLsbD i) 64 := by rw [hl]; exact sl_bl 8 (sN64 x)
  have hp : ∀ b ∈ l.map pc8, b ≤ 8 := fun b hb => by
    obtain ⟨c, hc, rfl⟩ := List.mem_map.mp hb
    exact (g12_b c (hlt c hc)).2.2.2.2.2
  have hpl : (l.map pc8).length = 8 := by rw [List.length_map, hlen]
  generalize l.map pc8 = L at e3 es hp hpl
  match L, hpl with
  | [p0, p1, p2, p3, p4, p5, p6, p7], _ =>
    obtain ⟨n4, n5, n6, i4, i5, i6, j4, j5, j6, k⟩ := sum8 p0 p1 p2 p3 p4 p5 p6 p7 (sN64 u) (hp _ (by simp)) (hp _ (by simp)) (hp _ (by simp)) (hp _ (by simp)) (hp _ (by simp)) (hp _ (by simp)) (hp _ (by simp)) (hp _ (by simp)) e3
    have q4 : sN64 v = n4 := by
      have q : sN64 (us u 8) = sN64 u / 256 := us_n u (j := 8) (by decide) (by decide)
      rw [hv, add_n (by rw [q]; omega), q, i4]
    have q5 : sN64 w = n5 := by
      have q : sN64 (us v 16) = sN64 v / 65536 := us_n v (j := 16) (by decide) (by decide)
      rw [hw, add_n (by rw [q, q4]; omega), q, q4, i5]
    have q6 : sN64 t = n6 := by
      have q : sN64 (us w 32) = sN64 w / 4294967296 := us_n w (j := 32) (by decide) (by decide)
      rw [ht, add_n (by rw [q, q5]; omega), q, q5, i6]
    have ht2 : t = lN n6 := by
      apply Int64.toBitVec_inj.mp
      apply BitVec.eq_of_toNat_eq
      show sN64 t = (BitVec.ofNat 64 n6).toNat
      rw [q6, BitVec.toNat_ofNat]
      omega
    rw [ht2, lN_i, pk_and (nI n6) 7 (by decide)]
    have : (nI n6).toBitVec.toNat % 2 ^ 7 = n6 % 128 := by
      show n6 % 2 ^ 32 % 2 ^ 7 = _
      omega
    rw [this, k, ← es]
    congr 2
    simp only [sl]
    omega
theorem cnt_cut {p : Nat → Bool} {n m : Nat} (h : n ≤ m) (hp : ∀ i, n ≤ i → i < m → p i = false) : cnt p m = cnt p n := by
  obtain ⟨k, rfl⟩ : ∃ k, m = n + k := ⟨m - n, by omega⟩
  rw [cnt_add]
  have : cnt (fun i => p (n + i)) k = 0 := by
    rw [cnt_congr (q := fun _ => false) k (fun i hi => hp _ (by omega) (by omega))]
    induction k with
    | zero => rfl
    | succ k ih => simp only [cnt]; rw [ih (by omega) (fun i a b => hp i a (by omega))]; rfl
  omega
theorem bitCount_LB {x : Int64} {p : Nat → Bool} (h : LB x p) (hp : ∀ i, 36 ≤ i → i < 64 → p i = false) (σ : Mem) : fJ13_bitCount_95d88 x σ = some (nI (cnt p 36)) := by
  rw [bitCount_n, cnt_congr 64 (fun i hi => h i hi), cnt_cut (n := 36) (by omega) hp]
