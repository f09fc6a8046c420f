/-! how many bits a long has: the JDK's sum in parallel, and the reference's loop -/
theorem and_split {k a b c e : Nat} (hb : b < 2 ^ k) (he : e < 2 ^ k) : (2 ^ k * a + b) &&& (2 ^ k * c + e) = 2 ^ k * (a &&& c) + (b &&& e) := by
  apply Nat.eq_of_testBit_eq
  intro j
  rw [Nat.testBit_and, Nat.testBit_two_pow_mul_add _ hb, Nat.testBit_two_pow_mul_add _ he, Nat.testBit_two_pow_mul_add _ (Nat.and_lt_two_pow _ he)]
  split <;> rw [Nat.testBit_and]
def dg (k : Nat) : Nat → (Nat → Nat) → Nat
  | 0, _ => 0
  | n + 1, d => 2 ^ k * dg k n (fun i => d (i + 1)) + d 0
theorem dg_cong {k : Nat} : ∀ {n : Nat} {d e : Nat → Nat}, (∀ i, i < n → d i = e i) → dg k n d = dg k n e
  | 0, _, _, _ => rfl
  | n + 1, d, e, h => by
    show 2 ^ k * dg k n _ + d 0 = 2 ^ k * dg k n _ + e 0
    rw [h 0 (by omega), dg_cong (n := n) (d := fun i => d (i + 1)) (e := fun i => e (i + 1)) (fun i hi => h (i + 1) (by omega))]
theorem dg_and {k : Nat} : ∀ {n : Nat} {d e : Nat → Nat}, (∀ i, d i < 2 ^ k) → (∀ i, e i < 2 ^ k) → dg k n d &&& dg k n e = dg k n (fun i => d i &&& e i)
  | 0, _, _, _, _ => Nat.zero_and 0
  | n + 1, d, e, h1, h2 => by
    show (2 ^ k * dg k n _ + d 0) &&& (2 ^ k * dg k n _ + e 0) = _
    rw [and_split (h1 0) (h2 0), dg_and (n := n) (fun i => h1 (i + 1)) (fun i => h2 (i + 1))]
    rfl
theorem dg_div {k n : Nat} {d : Nat → Nat} (h : d 0 < 2 ^ k) : dg k (n + 1) d / 2 ^ k = dg k n (fun i => d (i + 1)) := by
  show (2 ^ k * dg k n _ + d 0) / 2 ^ k = _
  rw [Nat.mul_add_div (Nat.two_pow_pos k), Nat.div_eq_of_lt h, Nat.add_zero]
theorem dg_top {k : Nat} : ∀ {n : Nat} {d : Nat → Nat}, d n = 0 → dg k (n + 1) d = dg k n d
  | 0, d, h => by show 2 ^ k * 0 + d 0 = 0; rw [h, Nat.mul_zero]
  | n + 1, d, h => by
    show 2 ^ k * dg k (n + 1) _ + d 0 = 2 ^ k * dg k n _ + d 0
    rw [dg_top (n := n) (d := fun i => d (i + 1)) h]
theorem dg_shift {k n : Nat} {d : Nat → Nat} (h : d 0 < 2 ^ k) (h2 : d (n + 1) = 0) : dg k (n + 1) d / 2 ^ k = dg k (n + 1) (fun i => d (i + 1)) := by
  rw [dg_div h, dg_top (d := fun i => d (i + 1)) h2]
theorem dg_add {k : Nat} : ∀ {n : Nat} {d e : Nat → Nat}, dg k n d + dg k n e = dg k n (fun i => d i + e i)
  | 0, _, _ => rfl
  | n + 1, d, e => by
    show (2 ^ k * dg k n _ + d 0) + (2 ^ k * dg k n _ + e 0) = 2 ^ k * dg k n _ + (d 0 + e 0)
    rw [← dg_add (n := n) (d := fun i => d (i + 1)) (e := fun i => e (i + 1)), Nat.mul_add]
    omega
theorem dg_two {k : Nat} : ∀ {n : Nat} {d : Nat → Nat}, dg (k + k) n (fun i => d (2 * i) + 2 ^ k * d (2 * i + 1)) = dg k (2 * n) d
  | 0, _ => rfl
  | n + 1, d => by
    show 2 ^ (k + k) * dg (k + k) n (fun i => d (2 * (i + 1)) + 2 ^ k * d (2 * (i + 1) + 1)) + (d 0 + 2 ^ k * d 1) = 2 ^ k * (2 ^ k * dg k (2 * n) (fun i => d (i + 1 + 1)) + d 1) + d 0
    have := dg_two (k := k) (n := n) (d := fun i => d (i + 1 + 1))
    rw [← this, Nat.pow_add, Nat.mul_add, Nat.mul_assoc]
    rw [show (fun i => d (2 * (i + 1)) + 2 ^ k * d (2 * (i + 1) + 1)) = (fun i => d (2 * i + 1 + 1) + 2 ^ k * d (2 * i + 1 + 1 + 1)) from rfl]
    omega
theorem dg_even {k n : Nat} {d : Nat → Nat} : dg k (2 * n) (fun i => if i % 2 = 0 then d i else 0) = dg (k + k) n (fun i => d (2 * i)) := by
  rw [← dg_two]
  apply dg_cong
  intro i _
  rw [if_pos (by omega), if_neg (by omega), Nat.mul_zero, Nat.add_zero]
theorem dg_lt {k : Nat} : ∀ {n : Nat} {d : Nat → Nat}, (∀ i, d i < 2 ^ k) → dg k n d < 2 ^ (k * n)
  | 0, _, _ => by show 0 < 2 ^ (k * 0); exact Nat.two_pow_pos _
  | n + 1, d, h => by
    show 2 ^ k * dg k n _ + d 0 < _
    have h1 := dg_lt (n := n) (d := fun i => d (i + 1)) (fun i => h (i + 1))
    have h2 := h 0
    have hp : 2 ^ (k * (n + 1)) = 2 ^ k * 2 ^ (k * n) := by rw [Nat.mul_succ, Nat.pow_add, Nat.mul_comm]
    rw [hp]
    have h3 : 2 ^ k * (dg k n (fun i => d (i + 1)) + 1) ≤ 2 ^ k * 2 ^ (k * n) := Nat.mul_le_mul_left _ h1
    rw [Nat.mul_add, Nat.mul_one] at h3
    omega
def bn (X i : Nat) : Nat := X / 2 ^ i % 2
theorem dg_bits : ∀ {n X : Nat}, X < 2 ^ n → dg 1 n (bn X) = X
  | 0, X, h => by show 0 = X; omega
  | n + 1, X, h => by
    show 2 ^ 1 * dg 1 n (fun i => bn X (i + 1)) + bn X 0 = X
    have e : (fun i => bn X (i + 1)) = bn (X / 2) := by
      funext i
      show X / 2 ^ (i + 1) % 2 = X / 2 / 2 ^ i % 2
      rw [Nat.div_div_eq_div_mul, Nat.pow_succ, Nat.mul_comm]
    rw [e, dg_bits (n := n) (X := X / 2) (by rw [Nat.pow_succ] at h; omega)]
    show 2 * (X / 2) + X / 1 % 2 = X
    omega
theorem and_even {k a : Nat} (i : Nat) (ha : a < 2 ^ k) : (a &&& (if i % 2 = 0 then 2 ^ k - 1 else 0)) = if i % 2 = 0 then a else 0 := by
  split
  · rw [Nat.and_two_pow_sub_one_eq_mod, Nat.mod_eq_of_lt ha]
  · exact Nat.and_zero a
theorem dg_mask {k n : Nat} {d : Nat → Nat} (hd : ∀ i, d i < 2 ^ k) : (dg k (2 * n) d &&& dg k (2 * n) (fun i => if i % 2 = 0 then 2 ^ k - 1 else 0)) = dg (k + k) n (fun i => d (2 * i)) := by
  have h0 : 0 < 2 ^ k := Nat.two_pow_pos k
  rw [dg_and hd (fun i => by split <;> omega)]
  rw [← dg_even]
  apply dg_cong
  intro i _
  exact and_even i (hd i)
def bp (X i : Nat) : Nat := bn X (2 * i) + bn X (2 * i + 1)
def bq (X i : Nat) : Nat := bp X (2 * i) + bp X (2 * i + 1)
def br (X i : Nat) : Nat := bq X (2 * i) + bq X (2 * i + 1)
theorem bn_lt (X i : Nat) : bn X i < 2 := Nat.mod_lt _ (by decide)
theorem bn_big {X i : Nat} (h : X < 2 ^ 64) (hi : 64 ≤ i) : bn X i = 0 := by
  unfold bn
  have : 2 ^ 64 ≤ 2 ^ i := Nat.pow_le_pow_right (by decide) hi
  rw [Nat.div_eq_of_lt (by omega)]
theorem bp_le (X i : Nat) : bp X i ≤ 2 := by have := bn_lt X (2 * i); have := bn_lt X (2 * i + 1); unfold bp; omega
theorem bq_le (X i : Nat) : bq X i ≤ 4 := by have := bp_le X (2 * i); have := bp_le X (2 * i + 1); unfold bq; omega
theorem br_le (X i : Nat) : br X i ≤ 8 := by have := bq_le X (2 * i); have := bq_le X (2 * i + 1); unfold br; omega
theorem bp_big {X i : Nat} (h : X < 2 ^ 64) (hi : 32 ≤ i) : bp X i = 0 := by unfold bp; rw [bn_big h (by omega), bn_big h (by omega)]
theorem bq_big {X i : Nat} (h : X < 2 ^ 64) (hi : 16 ≤ i) : bq X i = 0 := by unfold bq; rw [bp_big h (by omega), bp_big h (by omega)]
theorem br_big {X i : Nat} (h : X < 2 ^ 64) (hi : 8 ≤ i) : br X i = 0 := by unfold br; rw [bq_big h (by omega), bq_big h (by omega)]
theorem pk1 {X : Nat} (h : X < 2 ^ 64) : ((X / 2 ^ 1) &&& 6148914691236517205) + dg 2 32 (bp X) = X := by
  have e0 : X = dg 1 64 (bn X) := (dg_bits h).symm
  have e1 : X / 2 ^ 1 = dg 1 64 (fun i => bn X (i + 1)) := by
    have := dg_shift (k := 1) (n := 63) (d := bn X) (bn_lt X 0) (bn_big h (Nat.le_refl _))
    rw [dg_bits h] at this
    exact this
  have em : 6148914691236517205 = dg 1 (2 * 32) (fun i => if i % 2 = 0 then 2 ^ 1 - 1 else 0) := by decide +kernel
  have e2 := dg_mask (k := 1) (n := 32) (d := fun i => bn X (i + 1)) (fun i => bn_lt X (i + 1))
  rw [e1, em, e2, dg_add]
  conv => rhs; rw [e0]
  rw [show (64 : Nat) = 2 * 32 from rfl, ← dg_two (k := 1)]
  apply dg_cong
  intro i _
  show bn X (2 * i + 1) + (bn X (2 * i) + bn X (2 * i + 1)) = bn X (2 * i) + 2 * bn X (2 * i + 1)
  omega
theorem pk2 {X : Nat} (h : X < 2 ^ 64) : (dg 2 32 (bp X) &&& 3689348814741910323) + ((dg 2 32 (bp X) / 2 ^ 2) &&& 3689348814741910323) = dg 4 16 (bq X) := by
  have e1 : dg 2 32 (bp X) / 2 ^ 2 = dg 2 32 (fun i => bp X (i + 1)) := dg_shift (k := 2) (n := 31) (d := bp X) (by have := bp_le X 0; omega) (bp_big h (Nat.le_refl _))
  have em : 3689348814741910323 = dg 2 (2 * 16) (fun i => if i % 2 = 0 then 2 ^ 2 - 1 else 0) := by decide +kernel
  have e2 := dg_mask (k := 2) (n := 16) (d := bp X) (fun i => by have := bp_le X i; omega)
  have e3 := dg_mask (k := 2) (n := 16) (d := fun i => bp X (i + 1)) (fun i => by have := bp_le X (i + 1); show _ < 4; omega)
  rw [e1, em]
  rw [show (32 : Nat) = 2 * 16 from rfl, e2, e3, dg_add]
  rfl
theorem pk3 {X : Nat} (h : X < 2 ^ 64) : ((dg 4 16 (bq X) + dg 4 16 (bq X) / 2 ^ 4) &&& 1085102592571150095) = dg 8 8 (br X) := by
  have e1 : dg 4 16 (bq X) / 2 ^ 4 = dg 4 16 (fun i => bq X (i + 1)) := dg_shift (k := 4) (n := 15) (d := bq X) (by have := bq_le X 0; omega) (bq_big h (Nat.le_refl _))
  have em : 1085102592571150095 = dg 4 (2 * 8) (fun i => if i % 2 = 0 then 2 ^ 4 - 1 else 0) := by decide +kernel
  have e2 := dg_mask (k := 4) (n := 8) (d := fun i => bq X i + bq X (i + 1)) (fun i => by have := bq_le X i; have := bq_le X (i + 1); show _ < 16; omega)
  rw [e1, dg_add, em]
  rw [show (16 : Nat) = 2 * 8 from rfl, e2]
  rfl
def bs (X i : Nat) : Nat := br X i + br X (i + 1)
def bt2 (X i : Nat) : Nat := bs X i + bs X (i + 2)
def bu (X i : Nat) : Nat := bt2 X i + bt2 X (i + 4)
theorem bs_le (X i : Nat) : bs X i ≤ 16 := by have := br_le X i; have := br_le X (i + 1); unfold bs; omega
theorem bt2_le (X i : Nat) : bt2 X i ≤ 32 := by have := bs_le X i; have := bs_le X (i + 2); unfold bt2; omega
theorem bu_le (X i : Nat) : bu X i ≤ 64 := by have := bt2_le X i; have := bt2_le X (i + 4); unfold bu; omega
theorem bs_big {X i : Nat} (h : X < 2 ^ 64) (hi : 8 ≤ i) : bs X i = 0 := by unfold bs; rw [br_big h (by omega), br_big h (by omega)]
theorem bt2_big {X i : Nat} (h : X < 2 ^ 64) (hi : 8 ≤ i) : bt2 X i = 0 := by unfold bt2; rw [bs_big h (by omega), bs_big h (by omega)]
theorem sh1 {d : Nat → Nat} (h1 : ∀ i, d i < 256) (h2 : ∀ i, 8 ≤ i → d i = 0) : dg 8 8 d / 2 ^ 8 = dg 8 8 (fun i => d (i + 1)) := dg_shift (k := 8) (n := 7) (h1 0) (h2 8 (Nat.le_refl _))
theorem shn {d : Nat → Nat} (h1 : ∀ i, d i < 256) (h2 : ∀ i, 8 ≤ i → d i = 0) : ∀ m, dg 8 8 d / 2 ^ (8 * m) = dg 8 8 (fun i => d (i + m))
  | 0 => by rw [Nat.mul_zero, Nat.pow_zero, Nat.div_one]; rfl
  | m + 1 => by
    rw [Nat.mul_succ, Nat.pow_add, ← Nat.div_div_eq_div_mul, shn h1 h2 m, sh1 (fun i => h1 (i + m)) (fun i hi => h2 (i + m) (by omega))]
    apply dg_cong
    intro i _
    show d (i + 1 + m) = d (i + (m + 1))
    congr 1
    omega
theorem pk4 {X : Nat} (h : X < 2 ^ 64) : dg 8 8 (br X) + dg 8 8 (br X) / 2 ^ 8 = dg 8 8 (bs X) := by
  rw [shn (fun i => by have := br_le X i; omega) (fun i hi => br_big h hi) 1, dg_add]; rfl
theorem pk5 {X : Nat} (h : X < 2 ^ 64) : dg 8 8 (bs X) + dg 8 8 (bs X) / 2 ^ 16 = dg 8 8 (bt2 X) := by
  rw [shn (fun i => by have := bs_le X i; omega) (fun i hi => bs_big h hi) 2, dg_add]; rfl
theorem pk6 {X : Nat} (h : X < 2 ^ 64) : dg 8 8 (bt2 X) + dg 8 8 (bt2 X) / 2 ^ 32 = dg 8 8 (bu X) := by
  rw [shn (fun i => by have := bt2_le X i; omega) (fun i hi => bt2_big h hi) 4, dg_add]; rfl
theorem pk7 (X : Nat) : dg 8 8 (bu X) % 2 ^ 7 = bu X 0 := by
  show (2 ^ 8 * _ + bu X 0) % 2 ^ 7 = bu X 0
  have := bu_le X 0
  omega
/-- the sum of the bits -/
theorem bu_sum {X : Nat} (h : X < 2 ^ 64) : bu X 0 = fb_sm (bn X) 64 := by
  simp only [bu, bt2, bs, br, bq, bp, fb_sm, Nat.reduceMul, Nat.reduceAdd, Nat.mul_zero, Nat.zero_add]
  omega
theorem gb_lN {X i : Nat} : gb (lN X) i = (decide (i < 64) && X.testBit i) := by
  unfold gb
  rw [wb_tb, BitVec.getLsbD_ofNat]
theorem bn_tb (X i : Nat) : bn X i = if X.testBit i = true then 1 else 0 := by
  unfold bn
  rw [Nat.testBit_eq_decide_div_mod_eq]
  have := Nat.mod_lt (X / 2 ^ i) (show 0 < 2 by decide)
  by_cases h : X / 2 ^ i % 2 = 1
  · rw [h]; simp
  · have h0 : X / 2 ^ i % 2 = 0 := by omega
    rw [h0]; simp
theorem sm_ct (X : Nat) : ∀ n, n ≤ 64 → fb_sm (bn X) n = fb_ct (gb (lN X)) n
  | 0, _ => rfl
  | n + 1, h => by
    rw [fb_sm_succ, fb_ct_succ, sm_ct X n (by omega), bn_tb, gb_lN, decide_eq_true (by omega : n < 64), Bool.true_and]
theorem pc_sum {X : Nat} : pc (lN X) = fb_sm (bn X) 64 := (sm_ct X 64 (Nat.le_refl _)).symm
theorem c_bitCount {d : Nat} {h : AH} (x : Int64) : zK (d + 1) m_J13_bitCount_95d88 [.long x] h (pI h (fun y => y = nI (pc x))) := by
  refine r_J13_bitCount_95d88_0 x (mk_pI ?_)
  obtain ⟨X, hX, rfl⟩ := wb_of x
  have c5 : (6148914691236517205 : Int64) = lN 6148914691236517205 := rfl
  have c3 : (3689348814741910323 : Int64) = lN 3689348814741910323 := rfl
  have cF : (1085102592571150095 : Int64) = lN 1085102592571150095 := rfl
  have d2 : dg 2 32 (bp X) < 2 ^ 64 := dg_lt (k := 2) (n := 32) (fun i => by have := bp_le X i; omega)
  have d4 : dg 4 16 (bq X) < 2 ^ 64 := dg_lt (k := 4) (n := 16) (fun i => by have := bq_le X i; omega)
  have d8 : dg 8 8 (br X) < 2 ^ 64 := dg_lt (k := 8) (n := 8) (fun i => by have := br_le X i; omega)
  have d9 : dg 8 8 (bs X) < 2 ^ 64 := dg_lt (k := 8) (n := 8) (fun i => by have := bs_le X i; omega)
  have d10 : dg 8 8 (bt2 X) < 2 ^ 64 := dg_lt (k := 8) (n := 8) (fun i => by have := bt2_le X i; omega)
  have p1 := pk1 hX
  have e1 : lN X - lN (X / 2 ^ 1 &&& 6148914691236517205) = lN (dg 2 32 (bp X)) := by rw [lN_sub (by omega)]; congr 1; omega
  rw [c5, c3, cF]
  rw [wb_shr hX (show 1 < 64 by decide), wb_and (by omega) (by decide), e1]
  rw [wb_shr d2 (show 2 < 64 by decide), wb_and d2 (by decide), wb_and (by omega) (by decide), lN_add, pk2 hX]
  rw [wb_shr d4 (show 4 < 64 by decide), lN_add]
  have d4' : dg 4 16 (bq X) + dg 4 16 (bq X) / 2 ^ 4 < 2 ^ 64 := by
    have e : dg 4 16 (bq X) / 2 ^ 4 = dg 4 16 (fun i => bq X (i + 1)) := dg_shift (k := 4) (n := 15) (d := bq X) (by have := bq_le X 0; omega) (bq_big hX (Nat.le_refl _))
    rw [e, dg_add]
    exact dg_lt (k := 4) (n := 16) (fun i => by have := bq_le X i; have := bq_le X (i + 1); show _ < 16; omega)
  rw [wb_and d4' (by decide), pk3 hX]
  rw [wb_shr d8 (show 8 < 64 by decide), lN_add, pk4 hX]
  rw [wb_shr d9 (show 16 < 64 by decide), lN_add, pk5 hX]
  rw [wb_shr d10 (show 32 < 64 by decide), lN_add, pk6 hX, lN_i]
  rw [show nI 127 = nI (2 ^ 7 - 1) from rfl, fa_mask, pk7, bu_sum hX, pc_sum]
/-! the reference's loop -/
theorem ct_low (p : Nat → Bool) (n : Nat) : fb_ct p (n + 1) = (if p 0 = true then 1 else 0) + fb_ct (fun k => p (k + 1)) n := by
  have := fb_ct_split p 1 n
  rw [show 1 + n = n + 1 by omega] at this
  rw [this]
  have e : (fun k => p (1 + k)) = fun k => p (k + 1) := by funext k; rw [Nat.add_comm]
  rw [e]
  show 0 + _ + _ = _
  rw [Nat.zero_add]
theorem tb_low (X n : Nat) : fb_ct X.testBit (n + 1) = X % 2 + fb_ct (X / 2).testBit n := by
  rw [ct_low]
  have e : (fun k => X.testBit (k + 1)) = (X / 2).testBit := by funext k; rw [Nat.testBit_add_one]
  rw [e, Nat.testBit_zero]
  have := Nat.mod_lt X (show 0 < 2 by decide)
  by_cases h : X % 2 = 1
  · rw [h]; simp
  · have h0 : X % 2 = 0 := by omega
    rw [h0]; simp
theorem kern : ∀ (n X : Nat), 0 < X → X < 2 ^ n → fb_ct X.testBit n = fb_ct (X &&& (X - 1)).testBit n + 1
  | 0, X, h0, h => by have : X < 1 := h; omega
  | n + 1, X, h0, h => by
    rw [tb_low, tb_low]
    have hX : X = 2 ^ 1 * (X / 2) + X % 2 := by show X = 2 * _ + _; omega
    have hm := Nat.mod_lt X (show 0 < 2 by decide)
    rw [Nat.pow_succ] at h
    by_cases ho : X % 2 = 1
    · have h1 : X - 1 = 2 ^ 1 * (X / 2) + 0 := by show _ = 2 * _ + _; omega
      have e : X &&& (X - 1) = 2 ^ 1 * ((X / 2) &&& (X / 2)) + (X % 2 &&& 0) := by
        conv => lhs; rw [h1]
        conv => lhs; lhs; rw [hX]
        exact and_split (by show _ < 2; omega) (by decide)
      rw [Nat.and_self, Nat.and_zero] at e
      have e2 : (X &&& (X - 1)) / 2 = X / 2 := by rw [e]; show (2 * _ + 0) / 2 = _; omega
      have e3 : (X &&& (X - 1)) % 2 = 0 := by rw [e]; show (2 * _ + 0) % 2 = _; omega
      rw [e2, e3]
      omega
    · have h1 : X - 1 = 2 ^ 1 * (X / 2 - 1) + 1 := by show _ = 2 * _ + _; omega
      have e : X &&& (X - 1) = 2 ^ 1 * ((X / 2) &&& (X / 2 - 1)) + (X % 2 &&& 1) := by
        conv => lhs; rw [h1]
        conv => lhs; lhs; rw [hX]
        exact and_split (by show _ < 2; omega) (by decide)
      have hz : X % 2 = 0 := by omega
      rw [hz, Nat.zero_and] at e
      have e2 : (X &&& (X - 1)) / 2 = (X / 2) &&& (X / 2 - 1) := by rw [e]; show (2 * _ + 0) / 2 = _; omega
      have e3 : (X &&& (X - 1)) % 2 = 0 := by rw [e]; show (2 * _ + 0) % 2 = _; omega
      rw [e2, e3, kern n (X / 2) (by omega) (by omega)]
      omega
theorem pc_tb {X : Nat} (h : X < 2 ^ 64) : pc (lN X) = fb_ct X.testBit 64 := fb_ct_cong (fun k hk => by rw [gb_lN, decide_eq_true hk, Bool.true_and])
theorem pc_kern {x : Int64} (h : x ≠ 0) : pc x = pc (x &&& (x - 1)) + 1 := by
  obtain ⟨X, hX, rfl⟩ := wb_of x
  have h0 : 0 < X := Nat.pos_of_ne_zero (fun q => h (by rw [q]; rfl))
  have e : lN X &&& (lN X - 1) = lN (X &&& (X - 1)) := by
    rw [show (1 : Int64) = lN 1 from rfl, lN_sub h0, wb_and hX (by omega)]
  rw [e, pc_tb hX, pc_tb (Nat.lt_of_le_of_lt Nat.and_le_left hX), kern 64 X h0 hX]
theorem pc_0 : pc 0 = 0 := fb_ct_zero.mpr (fun k _ => gb_0 k)
