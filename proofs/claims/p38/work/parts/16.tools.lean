/-! using contracts -/
theorem use_pI {d : Nat} {M : Mth} {as : List Value} {h : AH} {v : Int32} {Q : Int32 → Prop} (c : zK d M as h (pI h (fun x => x = v))) (k : Q v) : zK d M as h (pI h Q) :=
  zK_mono c (fun r h' ⟨x, e1, e2, e3⟩ => ⟨x, e1, e2, e3 ▸ k⟩)
theorem use_pL {d : Nat} {M : Mth} {as : List Value} {h : AH} {v : Int64} {Q : Int64 → Prop} (c : zK d M as h (pL h (fun x => x = v))) (k : Q v) : zK d M as h (pL h Q) :=
  zK_mono c (fun r h' ⟨x, e1, e2, e3⟩ => ⟨x, e1, e2, e3 ▸ k⟩)
theorem use_kV {d : Nat} {M : Mth} {as : List Value} {h : AH} {P Q : AH → Prop} (c : zK d M as h (kV P)) (k : ∀ h', zWF h' → P h' → Q h') : zK d M as h (kV Q) :=
  zK_mono c (fun r h' ⟨e1, e2, e3⟩ => ⟨e1, e2, k h' e2 e3⟩)
theorem use_kI {d : Nat} {M : Mth} {as : List Value} {h : AH} {P Q : Int32 → AH → Prop} (c : zK d M as h (kI P)) (k : ∀ x h', zWF h' → P x h' → Q x h') : zK d M as h (kI Q) :=
  zK_mono c (fun r h' ⟨x, e1, e2, e3⟩ => ⟨x, e1, e2, k x h' e2 e3⟩)
theorem use_kL {d : Nat} {M : Mth} {as : List Value} {h : AH} {P Q : Int64 → AH → Prop} (c : zK d M as h (kL P)) (k : ∀ x h', zWF h' → P x h' → Q x h') : zK d M as h (kL Q) :=
  zK_mono c (fun r h' ⟨x, e1, e2, e3⟩ => ⟨x, e1, e2, k x h' e2 e3⟩)
theorem pI_kI {d : Nat} {M : Mth} {as : List Value} {h : AH} {v : Int32} {Q : Int32 → AH → Prop} (hw : zWF h) (c : zK d M as h (pI h (fun x => x = v))) (k : Q v h) : zK d M as h (kI Q) :=
  zK_mono c (fun r h' ⟨x, e1, e2, e3⟩ => ⟨x, e1, e2 ▸ hw, e2 ▸ e3 ▸ k⟩)
theorem mk_pI {h : AH} {e v : Int32} (q : e = v) : pI h (fun x => x = v) (some (.int e)) h := ⟨e, rfl, rfl, q⟩
theorem mk_pL {h : AH} {e v : Int64} (q : e = v) : pL h (fun x => x = v) (some (.long e)) h := ⟨e, rfl, rfl, q⟩
theorem mk_kV {h : AH} {P : AH → Prop} (hw : zWF h) (q : P h) : kV P none h := ⟨rfl, hw, q⟩
theorem mk_kI {h : AH} {P : Int32 → AH → Prop} {e : Int32} (hw : zWF h) (q : P e h) : kI P (some (.int e)) h := ⟨e, rfl, hw, q⟩
theorem mk_kL {h : AH} {P : Int64 → AH → Prop} {e : Int64} (hw : zWF h) (q : P e h) : kL P (some (.long e)) h := ⟨e, rfl, hw, q⟩
/-! counting up: what holds at the end and is carried back a step holds from every place -/
theorem nat_down {P : Nat → Prop} {N : Nat} (base : P N) (step : ∀ i, i < N → P (i + 1) → P i) : ∀ i, i ≤ N → P i := by
  have key : ∀ k, k ≤ N → P (N - k) := by
    intro k
    induction k with
    | zero => intro _; exact base
    | succ k ih =>
      intro hk
      refine step (N - (k + 1)) (by omega) ?_
      rw [show N - (k + 1) + 1 = N - k by omega]
      exact ih (by omega)
  intro i hi
  have := key (N - i) (by omega)
  rwa [show N - (N - i) = i by omega] at this
/-! small whole numbers -/
theorem nI_clampE {n : Nat} (h : n < 2147483648) : (nI n).toNatClampNeg = n := nI_clamp h
theorem nI_leE {a b : Nat} (ha : a < 2147483648) (hb : b < 2147483648) : nI a ≤ nI b ↔ a ≤ b := nI_leI ha hb
theorem nI_ltE {a b : Nat} (ha : a < 2147483648) (hb : b < 2147483648) : nI a < nI b ↔ a < b := nI_ltI ha hb
theorem nI_eqE {a b : Nat} (ha : a < 2147483648) (hb : b < 2147483648) : nI a = nI b ↔ a = b := nI_eq ha hb
theorem nI_mulE (a b : Nat) : nI a * nI b = nI (a * b) := pk_mul a b
theorem nI_subE {a b : Nat} (h : b ≤ a) : nI a - nI b = nI (a - b) := pk_sub h
theorem nI_divE {a d : Nat} (ha : a < 2147483648) (h0 : 0 < d) (hd : d < 2147483648) : nI a / nI d = nI (a / d) := pk_div ha h0 hd
theorem nI_remE {a d : Nat} (ha : a < 2147483648) (h0 : 0 < d) (hd : d < 2147483648) : nI a - nI a / nI d * nI d = nI (a % d) := pk_rem ha h0 hd
theorem nI_0E : nI 0 = 0 := nI_0
theorem nI_eq0 {a : Nat} (ha : a < 2147483648) : nI a = 0 ↔ a = 0 := by rw [← nI_0, nI_eq ha (by decide)]
theorem nI_lt0 {a : Nat} (ha : a < 2147483648) : ¬ nI a < 0 := by rw [← nI_0, nI_ltI ha (by decide)]; omega
theorem nI_0le {a : Nat} (ha : a < 2147483648) : 0 ≤ nI a := by rw [← nI_0, nI_leI (by decide) ha]; omega
theorem nI_0lt {a : Nat} (ha : a < 2147483648) : 0 < nI a ↔ 0 < a := by rw [← nI_0, nI_ltI (by decide) ha]
theorem nI_le0 {a : Nat} (ha : a < 2147483648) : nI a ≤ 0 ↔ a = 0 := by rw [← nI_0, nI_leI ha (by decide)]; omega
theorem zmmin_n {a b : Nat} (ha : a < 2147483648) (hb : b < 2147483648) : zmmin (nI a) (nI b) = nI (min a b) := by
  unfold zmmin
  by_cases h : b < a
  · rw [if_pos ((nI_ltI hb ha).mpr h), Nat.min_eq_right (by omega)]
  · rw [if_neg (fun q => h ((nI_ltI hb ha).mp q)), Nat.min_eq_left (by omega)]
theorem zmmax_n {a b : Nat} (ha : a < 2147483648) (hb : b < 2147483648) : zmmax (nI a) (nI b) = nI (max a b) := by
  unfold zmmax
  by_cases h : a < b
  · rw [if_pos ((nI_ltI ha hb).mpr h), Nat.max_eq_right (by omega)]
  · rw [if_neg (fun q => h ((nI_ltI ha hb).mp q)), Nat.max_eq_left (by omega)]
theorem i1_ne0 : ¬ nI 1 = 0 := by decide
theorem i0_eq0 : nI 0 = 0 := by decide
/-! bits of longs -/
def gb (x : Int64) (k : Nat) : Bool := x.toBitVec.getLsbD k
theorem gb_ext {x y : Int64} (h : ∀ i, i < 64 → gb x i = gb y i) : x = y := Int64.toBitVec_inj.mp (BitVec.eq_of_getLsbD_eq (fun i hi => h i hi))
theorem gb_or (x y : Int64) (i : Nat) : gb (x ||| y) i = (gb x i || gb y i) := by unfold gb; rw [Int64.toBitVec_or, BitVec.getLsbD_or]
theorem gb_and (x y : Int64) (i : Nat) : gb (x &&& y) i = (gb x i && gb y i) := by unfold gb; rw [Int64.toBitVec_and, BitVec.getLsbD_and]
theorem gb_xor (x y : Int64) (i : Nat) : gb (x ^^^ y) i = (gb x i ^^ gb y i) := by unfold gb; rw [Int64.toBitVec_xor, BitVec.getLsbD_xor]
theorem gb_0 (i : Nat) : gb 0 i = false := BitVec.getLsbD_zero
theorem gb_ge {x : Int64} {i : Nat} (h : 64 ≤ i) : gb x i = false := BitVec.getLsbD_of_ge _ _ h
theorem gb_m1 : ∀ i, i < 64 → gb (-1) i = true := by decide +kernel
def one (k : Nat) : Int64 := (1 : Int64) <<< ((nI k).toInt64 &&& 63)
theorem one_lN {k : Nat} (hk : k < 64) : one k = lN (2 ^ k) := by
  have := wb_shl 1 hk
  rw [Nat.one_mul] at this
  exact this
theorem one_bv {k : Nat} (hk : k < 64) : (one k).toBitVec = BitVec.twoPow 64 k := by
  rw [one_lN hk]
  apply BitVec.eq_of_toNat_eq
  rw [wb_tb, BitVec.toNat_ofNat, BitVec.toNat_twoPow]
theorem gb_one {k : Nat} (hk : k < 64) (i : Nat) : gb (one k) i = decide (i = k) := by
  unfold gb
  rw [one_bv hk, BitVec.getLsbD_twoPow]
  by_cases h : i = k
  · subst h; simp [hk]
  · have h' : ¬ k = i := fun q => h q.symm
    simp [h, h']
theorem hasE {l : Int64} {k : Nat} (hk : k < 64) : ((l.toUInt64 >>> ((nI k).toInt64.toUInt64 &&& Int64.toUInt64 63)).toInt64 &&& (1 : Int64)) = 0 ↔ gb l k = false := by
  rw [wb_cu k hk]
  exact ts_bit hk (u_tn (Nat.lt_trans hk (by decide)))
theorem lg_cmp0 (x y : Int64) : lg_cmp x y = 0 ↔ x = y := by
  unfold lg_cmp
  by_cases h1 : x > y
  · rw [if_pos h1]
    refine ⟨fun q => absurd q (by decide), fun q => ?_⟩
    subst q
    exact absurd h1 (by rw [gt_iff_lt, Int64.lt_iff_toInt_lt]; omega)
  · rw [if_neg h1]
    by_cases h2 : x = y
    · rw [if_pos h2]; exact ⟨fun _ => h2, fun _ => rfl⟩
    · rw [if_neg h2]; exact ⟨fun q => absurd q (by decide), fun q => absurd q h2⟩
theorem gb_sshr {l : Int64} {k : Nat} (hk : k < 64) : gb (l >>> ((nI k).toInt64 &&& 63)) 0 = gb l k := by
  unfold gb
  rw [wb_c k hk, Int64.toBitVec_shiftRight, wb_tb, wb_sm k hk, BitVec.sshiftRight_eq', BitVec.toNat_ofNat, Nat.mod_eq_of_lt (Nat.lt_trans hk (by decide)), BitVec.getLsbD_sshiftRight]
  simp [hk]
theorem and1 (x : Int64) : x &&& 1 = if gb x 0 then 1 else 0 := by
  apply gb_ext
  intro i hi
  rw [gb_and]
  have h1 : gb 1 i = decide (i = 0) := by
    revert i
    decide +kernel
  rw [h1]
  by_cases h : i = 0
  · subst h
    cases gb x 0 <;> decide
  · rw [decide_eq_false h, Bool.and_false]
    split
    · rw [h1, decide_eq_false h]
    · rw [gb_0]
theorem hasE2 {l : Int64} {k : Nat} (hk : k < 64) : ((l >>> ((nI k).toInt64 &&& 63)) &&& (1 : Int64)) = 1 ↔ gb l k = true := by
  rw [and1, gb_sshr hk]
  cases gb l k <;> decide
/-- how many bits -/
def pc (x : Int64) : Nat := fb_ct (gb x) 64
theorem pc_le (x : Int64) : pc x ≤ 64 := fb_ct_le _ _
theorem b2 (b : Bool) : (if b = true then nI 1 else nI 0) = 0 ↔ b = false := by cases b <;> decide
theorem c_hasBit {d : Nat} {h : AH} {l : Int64} {k : Nat} (hk : k < 64) : zK (d + 1) m_X10_hasBit [.long l, .int (nI k)] h (pI h (fun x => x = if gb l k = true then nI 1 else nI 0)) := by
  refine r_X10_hasBit_0 l (nI k) ⟨fun q => mk_pI ?_, fun q => mk_pI ?_⟩
  · rw [lg_cmp0, hasE hk] at q; rw [q]; rfl
  · rw [lg_cmp0, hasE hk] at q; rw [ts_nf q]; rfl
