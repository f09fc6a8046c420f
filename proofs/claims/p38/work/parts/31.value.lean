/-! the value: both go over the triangles in the same order -/
theorem gb_shl {l : Int64} {k i : Nat} (hk : k < 64) (hi : i < 64) : gb (l <<< ((nI k).toInt64 &&& 63)) i = (!decide (i < k) && gb l (i - k)) := by
  unfold gb
  rw [wb_c k hk, Int64.toBitVec_shiftLeft, wb_tb, wb_sm k hk, BitVec.shiftLeft_eq', BitVec.toNat_ofNat, Nat.mod_eq_of_lt (Nat.lt_trans hk (by decide)), BitVec.getLsbD_shiftLeft, decide_eq_true hi, Bool.true_and]
theorem sgn (x : Int64) : 0 ≤ lg_cmp x 0 ↔ gb x 63 = false := by
  have h1 : gb x 63 = decide (x.toInt < 0) := by
    unfold gb
    rw [← BitVec.msb_eq_getLsbD_last, BitVec.msb_eq_toInt]
    rfl
  rw [h1, decide_eq_false_iff_not]
  unfold lg_cmp
  by_cases h2 : x > 0
  · rw [if_pos h2]
    rw [gt_iff_lt, Int64.lt_iff_toInt_lt] at h2
    have h2 : 0 < x.toInt := h2
    exact ⟨fun _ => by omega, fun _ => by decide⟩
  · rw [if_neg h2]
    rw [gt_iff_lt, Int64.lt_iff_toInt_lt] at h2
    have h2 : ¬ 0 < x.toInt := h2
    by_cases h3 : x = 0
    · rw [if_pos h3]
      exact ⟨fun _ => by rw [h3]; decide, fun _ => by decide⟩
    · rw [if_neg h3]
      refine ⟨fun q => absurd q (by decide), fun q => absurd (Int64.toInt_inj.mp (show x.toInt = (0 : Int64).toInt from ?_)) h3⟩
      show x.toInt = 0
      omega
def ovf (l b : Int64) : Bool := gb (l ^^^ (l + b)) 63 && gb (b ^^^ (l + b)) 63
def triB (w : Nat → Int32) (a b c : Nat) : Int64 := ((w (pr a b)).toInt64 * (w (pr a c)).toInt64) * (w (pr b c)).toInt64
abbrev Vst : Type := Int64 × Bool
def vT (f : Nat → Int64) (w : Nat → Int32) (a b c : Nat) (q : Vst) : Vst := if (gb (f a) c && gb (f b) c) = true then (q.1 + triB w a b c, q.2 || ovf q.1 (triB w a b c)) else q
def vC (f : Nat → Int64) (w : Nat → Int32) (a b : Nat) : Nat → Nat → Vst → Vst
  | 0, _, q => q
  | n + 1, c, q => vC f w a b n (c + 1) (vT f w a b c q)
def vB (f : Nat → Int64) (w : Nat → Int32) (a : Nat) : Nat → Nat → Vst → Vst
  | 0, _, q => q
  | n + 1, b, q => vB f w a n (b + 1) (if gb (f a) b = true then vC f w a b (39 - b) (b + 1) q else q)
def vA (f : Nat → Int64) (w : Nat → Int32) : Nat → Nat → Vst → Vst
  | 0, _, q => q
  | n + 1, a, q => vA f w n (a + 1) (vB f w a (39 - a) (a + 1) q)
def vOut (q : Vst) : Int64 := if q.2 = true then (-9223372036854775807 : Int64) else q.1
theorem vT_m {f : Nat → Int64} {w : Nat → Int32} {a b c : Nat} {q : Vst} (h : q.2 = true) : (vT f w a b c q).2 = true := by
  unfold vT
  split
  · show (q.2 || _) = true; rw [h]; rfl
  · exact h
theorem vC_m {f : Nat → Int64} {w : Nat → Int32} {a b : Nat} : ∀ n c {q : Vst}, q.2 = true → (vC f w a b n c q).2 = true
  | 0, _, _, h => h
  | n + 1, c, _, h => vC_m n (c + 1) (vT_m h)
theorem vB_m {f : Nat → Int64} {w : Nat → Int32} {a : Nat} : ∀ n b {q : Vst}, q.2 = true → (vB f w a n b q).2 = true
  | 0, _, _, h => h
  | n + 1, b, q, h => by
    refine vB_m n (b + 1) ?_
    split
    · exact vC_m _ _ h
    · exact h
theorem vA_m {f : Nat → Int64} {w : Nat → Int32} : ∀ n a {q : Vst}, q.2 = true → (vA f w n a q).2 = true
  | 0, _, _, h => h
  | n + 1, a, _, h => vA_m n (a + 1) (vB_m _ _ h)
theorem vC_id {f : Nat → Int64} {w : Nat → Int32} {a b : Nat} : ∀ n c {q : Vst}, (∀ i, c ≤ i → i < c + n → (gb (f a) i && gb (f b) i) = false) → vC f w a b n c q = q
  | 0, _, _, _ => rfl
  | n + 1, c, q, h => by
    show vC f w a b n (c + 1) (vT f w a b c q) = q
    have e : vT f w a b c q = q := by unfold vT; rw [h c (by omega) (by omega)]; rfl
    rw [e]
    exact vC_id n (c + 1) (fun i h1 h2 => h i (by omega) (by omega))
section VALUE
variable {d : Nat} {h : AH} {s : NS}
theorem c_above {k : Nat} (hk : k < 40) : zK (d + 1) m_X10_above [.int (nI k)] h (pL h (fun x => x = (1099511627775 : Int64) &&& ((-2 : Int64) <<< ((nI k).toInt64 &&& 63)))) := r_X10_above_0 _ (mk_pL rfl)
theorem gb_above {k i : Nat} (hk : k < 40) (hi : i < 40) : gb ((1099511627775 : Int64) &&& ((-2 : Int64) <<< ((nI k).toInt64 &&& 63))) i = decide (k < i) := by
  have h1 : ∀ i, i < 40 → gb (1099511627775 : Int64) i = true := by decide +kernel
  have h2 : ∀ i, i < 64 → gb (-2 : Int64) i = decide (0 < i) := by decide +kernel
  rw [gb_and, h1 i hi, Bool.true_and, gb_shl (by omega) (by omega), h2 _ (by omega)]
  by_cases z : k < i
  · rw [decide_eq_true z, decide_eq_true (show 0 < i - k by omega), decide_eq_false (show ¬ i < k by omega)]; rfl
  · rw [decide_eq_false z, decide_eq_false (show ¬ 0 < i - k by omega), Bool.and_false]
theorem bI_or (x y : Bool) : bI x ||| bI y = bI (x || y) := by cases x <;> cases y <;> decide
end VALUE
