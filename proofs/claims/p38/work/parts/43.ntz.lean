/-! the lowest bit of a long -/
theorem lowX {X k : Nat} (h1 : X.testBit k = true) (h0 : ∀ i, i < k → X.testBit i = false) : X % 2 ^ (k + 1) = 2 ^ k := by
  apply Nat.eq_of_testBit_eq
  intro i
  rw [Nat.testBit_mod_two_pow, Nat.testBit_two_pow]
  by_cases e : k = i
  · subst e
    rw [h1]; simp
  · by_cases z : i < k
    · rw [h0 i z]; simp [e]
    · rw [decide_eq_false (show ¬ i < k + 1 by omega), decide_eq_false e]; rfl
theorem low_and {x : Int32} {k : Nat} (hk : k < 32) (h1 : x.toBitVec.getLsbD k = true) (h0 : ∀ i, i < k → x.toBitVec.getLsbD i = false) : (x ^^^ (-1)) &&& (x - nI 1) = nI (2 ^ k - 1) := by
  have hX : x.toBitVec.toNat % 2 ^ (k + 1) = 2 ^ k := lowX h1 h0
  have hlt : x.toBitVec.toNat < 2 ^ 32 := x.toBitVec.isLt
  have hp : 0 < 2 ^ k := Nat.two_pow_pos k
  have hdm := Nat.div_add_mod x.toBitVec.toNat (2 ^ (k + 1))
  rw [hX] at hdm
  have hs : (x - nI 1).toBitVec.toNat = 2 ^ (k + 1) * (x.toBitVec.toNat / 2 ^ (k + 1)) + (2 ^ k - 1) := by
    rw [Int32.toBitVec_sub, BitVec.toNat_sub]
    have e : (nI 1).toBitVec.toNat = 1 := by decide
    rw [e]
    have : (2 ^ 32 - 1 + x.toBitVec.toNat) % 2 ^ 32 = x.toBitVec.toNat - 1 := by omega
    rw [this]
    omega
  have hpk : 2 ^ (k + 1) = 2 * 2 ^ k := by rw [Nat.pow_succ]; omega
  apply Int32.toBitVec_inj.mp
  apply BitVec.eq_of_getLsbD_eq
  intro i hi
  rw [Int32.toBitVec_and, BitVec.getLsbD_and, Int32.toBitVec_xor, BitVec.getLsbD_xor]
  have hm1 : (-1 : Int32).toBitVec.getLsbD i = true := by
    revert i
    decide +kernel
  rw [hm1, Bool.xor_true]
  have ha : (x - nI 1).toBitVec.getLsbD i = if i < k + 1 then (2 ^ k - 1).testBit i else (x.toBitVec.toNat / 2 ^ (k + 1)).testBit (i - (k + 1)) := by
    show (x - nI 1).toBitVec.toNat.testBit i = _
    rw [hs, Nat.testBit_two_pow_mul_add _ (by omega)]
  have hb : x.toBitVec.getLsbD i = if i < k + 1 then (2 ^ k).testBit i else (x.toBitVec.toNat / 2 ^ (k + 1)).testBit (i - (k + 1)) := by
    show x.toBitVec.toNat.testBit i = _
    rw [← hdm, Nat.testBit_two_pow_mul_add _ (by omega)]
    have : (2 ^ (k + 1) * (x.toBitVec.toNat / 2 ^ (k + 1)) + 2 ^ k) / 2 ^ (k + 1) = x.toBitVec.toNat / 2 ^ (k + 1) := by rw [hdm]
    rw [this]
  have hc : (nI (2 ^ k - 1)).toBitVec.getLsbD i = (2 ^ k - 1).testBit i := by
    show (BitVec.ofNat 32 (2 ^ k - 1)).getLsbD i = _
    rw [BitVec.getLsbD_ofNat, decide_eq_true hi, Bool.true_and]
  rw [ha, hb, hc]
  by_cases z : i < k + 1
  · rw [if_pos z, if_pos z, Nat.testBit_two_pow, Nat.testBit_two_pow_sub_one]
    by_cases y : i < k
    · simp [y]; omega
    · have : i = k := by omega
      subst this; simp
  · rw [if_neg z, if_neg z, Nat.testBit_two_pow_sub_one, decide_eq_false (show ¬ i < k by omega)]
    cases (x.toBitVec.toNat / 2 ^ (k + 1)).testBit (i - (k + 1)) <;> rfl
def zs (n : Nat) (y : Int32) : Int32 := (y.toUInt32 >>> ((nI n).toUInt32 &&& Int32.toUInt32 31)).toInt32
def z74 (y n : Int32) : Int32 := n + zs 1 y
def z62 (y n : Int32) : Int32 := if y ≤ nI 4 then z74 y n else z74 (zs 2 y) (n + nI 2)
def z49 (y n : Int32) : Int32 := if y ≤ nI 16 then z62 y n else z62 (zs 4 y) (n + nI 4)
def z34 (y n : Int32) : Int32 := if y ≤ nI 256 then z49 y n else z49 (zs 8 y) (n + nI 8)
def z0 (y : Int32) : Int32 := if 0 < y then (if y ≤ nI 65536 then z34 y (nI 1) else z34 (zs 16 y) (nI 1 + nI 16)) else y &&& nI 32
theorem z0_k : ∀ k, k < 32 → z0 (nI (2 ^ k - 1)) = nI k := by decide +kernel
section NTZ
variable {d : Nat} {h : AH}
theorem c_z74 (y n : Int32) : zQ none m_J6_numberOfTrailingZeros_0f7a4 (d + 1) 74 [(0, .int y), (1, .int n)] [] h (pI h (fun x => x = z74 y n)) := r_J6_numberOfTrailingZeros_0f7a4_74 _ _ (mk_pI rfl)
theorem c_z62 (y n : Int32) : zQ none m_J6_numberOfTrailingZeros_0f7a4 (d + 1) 62 [(0, .int y), (1, .int n)] [] h (pI h (fun x => x = z62 y n)) := by
  unfold z62
  refine r_J6_numberOfTrailingZeros_0f7a4_62 _ _ ⟨fun z => ?_, fun z => ?_⟩
  · rw [if_pos z]; exact c_z74 _ _
  · rw [if_neg z]; exact c_z74 _ _
theorem c_z49 (y n : Int32) : zQ none m_J6_numberOfTrailingZeros_0f7a4 (d + 1) 49 [(0, .int y), (1, .int n)] [] h (pI h (fun x => x = z49 y n)) := by
  unfold z49
  refine r_J6_numberOfTrailingZeros_0f7a4_49 _ _ ⟨fun z => ?_, fun z => ?_⟩
  · rw [if_pos z]; exact c_z62 _ _
  · rw [if_neg z]; exact c_z62 _ _
theorem c_z34 (y n : Int32) : zQ none m_J6_numberOfTrailingZeros_0f7a4 (d + 1) 34 [(0, .int y), (1, .int n)] [] h (pI h (fun x => x = z34 y n)) := by
  unfold z34
  refine r_J6_numberOfTrailingZeros_0f7a4_34 _ _ ⟨fun z => ?_, fun z => ?_⟩
  · rw [if_pos z]; exact c_z49 _ _
  · rw [if_neg z]; exact c_z49 _ _
theorem c_ntzI {x : Int32} {k : Nat} (hk : k < 32) (h1 : x.toBitVec.getLsbD k = true) (h0 : ∀ i, i < k → x.toBitVec.getLsbD i = false) : zK (d + 1) m_J6_numberOfTrailingZeros_0f7a4 [.int x] h (pI h (fun y => y = nI k)) := by
  refine r_J6_numberOfTrailingZeros_0f7a4_0 _ ?_
  rw [low_and hk h1 h0, ← z0_k k hk]
  unfold z0
  refine ⟨fun z => ⟨fun y => ?_, fun y => ?_⟩, fun z => mk_pI ?_⟩
  · rw [if_pos z, if_pos y]; exact c_z34 _ _
  · rw [if_pos z, if_neg y]; exact c_z34 _ _
  · rw [if_neg z]
theorem lo_bit {x : Int64} {i : Nat} (hi : i < 32) : x.toInt32.toBitVec.getLsbD i = gb x i := by
  unfold gb
  rw [Int64.toBitVec_toInt32, BitVec.getLsbD_signExtend, decide_eq_true hi, Bool.true_and, if_pos (by omega)]
theorem c_ntz {x : Int64} {k : Nat} (hk : k < 64) (h1 : gb x k = true) (h0 : ∀ i, i < k → gb x i = false) : zK (d + 2) m_J13_numberOfTrailingZeros_95d88 [.long x] h (pI h (fun y => y = nI k)) := by
  refine r_J13_numberOfTrailingZeros_95d88_0 _ ⟨fun z => ?_, fun z => ?_⟩
  · have hk32 : k < 32 := by
      apply Classical.byContradiction
      intro y
      apply z
      apply Int32.toBitVec_inj.mp
      apply BitVec.eq_of_getLsbD_eq
      intro i hi
      rw [lo_bit hi, h0 i (by omega)]
      exact BitVec.getLsbD_zero.symm
    exact use_pI (c_ntzI hk32 (by rw [lo_bit hk32]; exact h1) (fun i hi => by rw [lo_bit (by omega)]; exact h0 i hi)) (mk_pI rfl)
  · have hk32 : 32 ≤ k := by
      apply Classical.byContradiction
      intro y
      have := lo_bit (x := x) (show k < 32 by omega)
      rw [z, h1] at this
      exact absurd (BitVec.getLsbD_zero.symm.trans this) (by decide)
    have e : (x.toUInt64 >>> ((nI 32).toInt64.toUInt64 &&& Int64.toUInt64 63)).toInt64.toBitVec = x.toBitVec >>> 32 := by
      rw [wb_cu 32 (by decide)]
      apply BitVec.eq_of_toNat_eq
      show (x.toUInt64 >>> UInt64.ofNat 32).toNat = _
      rw [UInt64.toNat_shiftRight, u_tn (by decide), Nat.mod_eq_of_lt (by decide), BitVec.toNat_ushiftRight]
      rfl
    have hb : ∀ i, i < 32 → (x.toUInt64 >>> ((nI 32).toInt64.toUInt64 &&& Int64.toUInt64 63)).toInt64.toInt32.toBitVec.getLsbD i = gb x (32 + i) := fun i hi => by
      rw [lo_bit hi]
      unfold gb
      rw [e, BitVec.getLsbD_ushiftRight]
    refine use_pI (c_ntzI (k := k - 32) (by omega) (by rw [hb _ (by omega), show 32 + (k - 32) = k by omega]; exact h1) (fun i hi => by rw [hb i (by omega)]; exact h0 _ (by omega))) (mk_pI ?_)
    rw [nI_add, show 32 + (k - 32) = k by omega]
end NTZ
