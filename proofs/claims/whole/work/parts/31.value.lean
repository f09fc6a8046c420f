/-! the value: both go over the triangles in the same order -/
theorem gb_shl {l : Int64} {k i : Nat} (hk : k < 64) (hi : i < 64) : gb (l <<< ((nI k).toInt64 &&& 63)) i = (!decide (i < k) && gb l (i - k)) := by
  unfold gb
  rw [wb_c k hk, Int64.toBitVec_shiftLeft, wb_tb, wb_sm k hk, BitVec.shiftLeft_eq', BitVec.toNat_ofNat, Nat.mod_eq_of_lt (Nat.lt_trans hk (by decide)), BitVec.getLsbD_shiftLeft, decide_eq_true hi, Bool.true_and]
theorem sgn (x : Int64) : 0 ≤ lg_cmp x 0 ↔ gb x 63 = false := by
  have h1 : gb x 63 = decide (x.toInt < 0) := by
    unfold gb
    rw [← BitVec.msb_eq_getLsbD_last, BitVec.msb_eq_toInt]
    rfl
  rw [h1, decide_eq_false_iff_not]
  unfold lg_cmp
  by_cases h2 : x > 0
  · rw [if_pos h2]
    rw [gt_iff_lt, Int64.lt_iff_toInt_lt] at h2
    have h2 : 0 < x.toInt := h2
    exact ⟨fun _ => by omega, fun _ => by decide⟩
  · rw [if_neg h2]
    rw [gt_iff_lt, Int64.lt_iff_toInt_lt] at h2
    have h2 : ¬ 0 < x.toInt := h2
    by_cases h3 : x = 0
    · rw [if_pos h3]
      exact ⟨fun _ => by rw [h3]; decide, fun _ => by decide⟩
    · rw [if_neg h3]
      refine ⟨fun q => absurd q (by decide), fun q => absurd (Int64.toInt_inj.mp (show x.toInt = (0 : Int64).toInt from ?_)) h3⟩
      show x.toInt = 0
      omega
def ovf (l b : Int64) : Bool := gb (l ^^^ (l + b)) 63 && gb (b ^^^ (l + b)) 63
def triB (w : Nat → Int32) (a b c : Nat) : Int64 := ((w (pr a b)).toInt64 * (w (pr a c)).toInt64) * (w (pr b c)).toInt64
abbrev Vst : Type := Int64 × Bool
def vT (f : Nat → Int64) (w : Nat → Int32) (a b c : Nat) (q : Vst) : Vst := if (gb (f a) c && gb (f b) c) = true then (q.1 + triB w a b c, q.2 || ovf q.1 (triB w a b c)) else q
def vC (f : Nat → Int64) (w : Nat → Int32) (a b : Nat) : Nat → Nat → Vst → Vst
  | 0, _, q => q
  | n + 1, c, q => vC f w a b n (c + 1) (vT f w a b c q)
def vB (f : Nat → Int64) (w : Nat → Int32) (a : Nat) : Nat → Nat → Vst → Vst
  | 0, _, q => q
  | n + 1, b, q => vB f w a n (b + 1) (if gb (f a) b = true then vC f w a b (39 - b) (b + 1) q else q)
def vA (f : Nat → Int64) (w : Nat → Int32) : Nat → Nat → Vst → Vst
  | 0, _, q => q
  | n + 1, a, q => vA f w n (a + 1) (vB f w a (39 - a) (a + 1) q)
def vOut (q : Vst) : Int64 := if q.2 = true then (-9223372036854775807 : Int64) else q.1
theorem vT_m {f : Nat → Int64} {w : Nat → Int32} {a b c : Nat} {q : Vst} (h : q.2 = true) : (vT f w a b c q).2 = true := by
  unfold vT
  split
  · show (q.2 || _) = true; rw [h]; rfl
  · exact h
theorem vC_m {f : Nat → Int64} {w : Nat → Int32} {a b : Nat} : ∀ n c {q : Vst}, q.2 = true → (vC f w a b n c q).2 = true
  | 0, _, _, h => h
  | n + 1, c, _, h => vC_m n (c + 1) (vT_m h)
theorem vB_m {f : Nat → Int64} {w : Nat → Int32} {a : Nat} : ∀ n b {q : Vst}, q.2 = true → (vB f w a n b q).2 = true
  | 0, _, _, h => h
  | n + 1, b, q, h => by
    refine vB_m n (b + 1) ?_
    split
    · exact vC_m _ _ h
    · exact h
theorem vA_m {f : Nat → Int64} {w : Nat → Int32} : ∀ n a {q : Vst}, q.2 = true → (vA f w n a q).2 = true
  | 0, _, _, h => h
  | n + 1, a, _, h => vA_m n (a + 1) (vB_m _ _ h)
theorem vC_id {f : Nat → Int64} {w : Nat → Int32} {a b : Nat} : ∀ n c {q : Vst}, (∀ i, c ≤ i → i < c + n → (gb (f a) i && gb (f b) i) = false) → vC f w a b n c q = q
  | 0, _, _, _ => rfl
  | n + 1, c, q, h => by
    show vC f w a b n (c + 1) (vT f w a b c q) = q
    have e : vT f w a b c q = q := by unfold vT; rw [h c (by omega) (by omega)]; rfl
    rw [e]
    exact vC_id n (c + 1) (fun i h1 h2 => h i (by omega) (by omega))
section VALUE
variable {d : Nat} {h : AH} {s : NS}
theorem c_above {k : Nat} (hk : k < 40) : zK (d + 1) m_X10_above [.int (nI k)] h (pL h (fun x => x = (1099511627775 : Int64) &&& ((-2 : Int64) <<< ((nI k).toInt64 &&& 63)))) := r_X10_above_0 _ (mk_pL rfl)
theorem gb_above {k i : Nat} (hk : k < 40) (hi : i < 40) : gb ((1099511627775 : Int64) &&& ((-2 : Int64) <<< ((nI k).toInt64 &&& 63))) i = decide (k < i) := by
  have h1 : ∀ i, i < 40 → gb (1099511627775 : Int64) i = true := by decide +kernel
  have h2 : ∀ i, i < 64 → gb (-2 : Int64) i = decide (0 < i) := by decide +kernel
  rw [gb_and, h1 i hi, Bool.true_and, gb_shl (by omega) (by omega), h2 _ (by omega)]
  by_cases z : k < i
  · rw [decide_eq_true z, decide_eq_true (show 0 < i - k by omega), decide_eq_false (show ¬ i < k by omega)]; rfl
  · rw [decide_eq_false z, decide_eq_false (show ¬ 0 < i - k by omega), Bool.and_false]
theorem c_sumL (l b : Int64) : zK (d + 1) m_X10_sumLeavesLong [.long l, .long b] h (pI h (fun x => x = bI (ovf l b))) := by
  refine r_X10_sumLeavesLong_0 _ _ ⟨fun q => mk_pI (bI_f ?_), fun q => mk_pI (bI_t ?_)⟩
  · rw [sgn, gb_and] at q; exact q
  · rw [sgn, gb_and] at q; exact ts_nf q
theorem c_valueC (hw : zWF h) (hC : CN h s) {a b : Nat} (hb : b < 40) (hab : a < b) (hg : gb (s.f a) b = true) (l5 : Int64) (h5 : ∀ i, i < 40 → gb l5 i = (decide (b < i) && (gb (s.f a) i && gb (s.f b) i))) {F : Vst → Vst} (hF : ∀ q : Vst, q.2 = true → (F q).2 = true) (ret : ∀ l, zQ none m_X10_value (d + 3) 15 [(0, .ref 1), (1, .long l), (3, .int (nI a)), (4, .int (nI (b + 1)))] [] h (pL h (fun x => x = vOut (F (l, false))))) : ∀ n c, n + c = 40 → b < c → ∀ l, zQ none m_X10_value (d + 3) 73 [(0, .ref 1), (1, .long l), (3, .int (nI a)), (4, .int (nI b)), (5, .long l5), (7, .int (nI c))] [] h (pL h (fun x => x = vOut (F (vC s.f s.w a b n c (l, false))))) := by
  intro n
  induction n with
  | zero =>
    intro c hc hbc l
    rw [Nat.zero_add] at hc
    subst hc
    refine r_X10_value_73 _ _ _ _ _ hw ⟨fun _ => ?_, fun q => absurd e40 q⟩
    rw [nI_add]
    exact ret l
  | succ n ih =>
    intro c hc hbc l
    refine r_X10_value_73 _ _ _ _ _ hw ⟨fun q => absurd q (n40 (by omega)), fun _ => ⟨fun z => ?_, fun z => ?_⟩⟩
    · rw [lg_cmp0] at z
      rw [nI_add, vC_id (n + 1) c ?_]
      · exact ret l
      · intro i h1 h2
        have := h5 i (by omega)
        rw [z, gb_0, decide_eq_true (show b < i by omega), Bool.true_and] at this
        exact this.symm
    · have e5 := h5 c (by omega)
      rw [decide_eq_true hbc, Bool.true_and] at e5
      refine use_pI (c_hasBit (by omega)) ?_
      rw [e5]
      show (¬ bI _ = 0 → _) ∧ _
      cases ht : (gb (s.f a) c && gb (s.f b) c) with
      | false =>
        refine ⟨fun q => absurd bf0 q, fun _ => ?_⟩
        have e : vT s.f s.w a b c (l, false) = (l, false) := by unfold vT; rw [ht]; rfl
        have := ih (c + 1) (by omega) (by omega) l
        rw [nI_add]
        show zQ none _ _ 73 _ [] h (pL h (fun x => x = vOut (F (vC s.f s.w a b n (c + 1) (vT s.f s.w a b c (l, false))))))
        rw [e]
        exact this
      | true =>
        refine ⟨fun _ => ?_, fun q => absurd q bt0⟩
        rw [Bool.and_eq_true] at ht
        have ha : a < 40 := by omega
        have hc' : c < 40 := by omega
        refine use_pI (c_pairOf ha hb) ⟨vp_in_nI (pr_lt ha hb) (by decide), use_pI (c_pairOf ha hc') ⟨vp_in_nI (pr_lt ha hc') (by decide), use_pI (c_pairOf hb hc') ⟨vp_in_nI (pr_lt hb hc') (by decide), ?_⟩⟩⟩
        rw [cl_n (pr_lt ha hb) (by decide), cl_n (pr_lt ha hc') (by decide), cl_n (pr_lt hb hc') (by decide), hC.2.1 a b ha hb hg, hC.2.1 a c ha hc' ht.1, hC.2.1 b c hb hc' ht.2]
        refine use_pI (c_sumL _ _) ?_
        have e : vT s.f s.w a b c (l, false) = (l + triB s.w a b c, ovf l (triB s.w a b c)) := by unfold vT; rw [if_pos (by rw [Bool.and_eq_true]; exact ht)]; rfl
        show (bI (ovf l (triB s.w a b c)) = 0 → zQ none m_X10_value (d + 3) 73 [(0, .ref 1), (1, .long (l + triB s.w a b c)), (3, .int (nI a)), (4, .int (nI b)), (5, .long l5), (7, .int (nI c + nI 1))] [] h (pL h (fun x => x = vOut (F (vC s.f s.w a b n (c + 1) (vT s.f s.w a b c (l, false))))))) ∧ (¬ bI (ovf l (triB s.w a b c)) = 0 → pL h (fun x => x = vOut (F (vC s.f s.w a b n (c + 1) (vT s.f s.w a b c (l, false))))) (some (.long (-9223372036854775807 : Int64))) h)
        rw [e]
        refine ⟨fun q => ?_, fun q => mk_pL ?_⟩
        · rw [bFb q, nI_add]
          exact ih (c + 1) (by omega) (by omega) _
        · rw [vOut, if_pos]
          exact hF _ (vC_m _ _ (bTb q))
theorem c_value (hw : zWF h) (hC : CN h s) : zK (d + 3) m_X10_value [.ref 1] h (pL h (fun x => x = vOut (vA s.f s.w 40 0 (0, false)))) := by
  refine r_X10_value_0 hw ?_
  have B : ∀ {a : Nat}, a < 40 → ∀ {F : Vst → Vst}, (∀ q : Vst, q.2 = true → (F q).2 = true) → (∀ l, zQ none m_X10_value (d + 3) 4 [(0, .ref 1), (1, .long l), (3, .int (nI (a + 1)))] [] h (pL h (fun x => x = vOut (F (l, false))))) → ∀ n b, n + b = 40 → a < b → ∀ l, zQ none m_X10_value (d + 3) 15 [(0, .ref 1), (1, .long l), (3, .int (nI a)), (4, .int (nI b))] [] h (pL h (fun x => x = vOut (F (vB s.f s.w a n b (l, false))))) := by
    intro a ha F hF ret n
    induction n with
    | zero =>
      intro b hb hab l
      rw [Nat.zero_add] at hb
      subst hb
      refine r_X10_value_15 _ _ _ hw ⟨fun _ => ?_, fun q => absurd e40 q⟩
      rw [nI_add]
      exact ret l
    | succ n ih =>
      intro b hb hab l
      have hb' : b < 40 := by omega
      refine r_X10_value_15 _ _ _ hw ⟨fun q => absurd q (n40 hb'), fun _ => use_pI (c_joins hw ha hb') ?_⟩
      rw [hC.1]
      show _ ∧ (¬ bI _ = 0 → _)
      cases hg : gb (s.f a) b with
      | false =>
        refine ⟨fun _ => ?_, fun q => absurd bf0 q⟩
        have e : vB s.f s.w a (n + 1) b (l, false) = vB s.f s.w a n (b + 1) (l, false) := by
          show vB s.f s.w a n (b + 1) (if gb (s.f a) b = true then _ else _) = _
          rw [hg]; rfl
        rw [e, nI_add]
        by_cases hl : b + 1 = 40
        · refine r_X10_value_73 _ _ _ _ _ hw ⟨fun _ => ?_, fun q => absurd (by rw [hl]; exact e40) q⟩
          rw [nI_add]
          exact ih (b + 1) (by omega) (by omega) l
        · refine r_X10_value_73 _ _ _ _ _ hw ⟨fun q => absurd q (n40 (by omega)), fun _ => ⟨fun _ => ?_, fun q => absurd ((lg_cmp0 _ _).mpr rfl) q⟩⟩
          rw [nI_add]
          exact ih (b + 1) (by omega) (by omega) l
      | true =>
        refine ⟨fun q => absurd q bt0, fun _ => ⟨vi40 ha, vi40 hb', use_pL (c_above hb') ?_⟩⟩
        have e : vB s.f s.w a (n + 1) b (l, false) = vB s.f s.w a n (b + 1) (vC s.f s.w a b (39 - b) (b + 1) (l, false)) := by
          show vB s.f s.w a n (b + 1) (if gb (s.f a) b = true then _ else _) = _
          rw [hg]; rfl
        rw [e, nI_add, cl40 ha, cl40 hb']
        refine c_valueC (F := fun q => F (vB s.f s.w a n (b + 1) q)) hw hC hb' hab hg _ (fun i hi => ?_) (fun q hq => hF _ (vB_m _ _ hq)) (fun l => ih (b + 1) (by omega) (by omega) l) (39 - b) (b + 1) (by omega) (by omega) l
        rw [gb_and, gb_and, gb_above hb' hi, Bool.and_comm]
  have A : ∀ n a, n + a = 40 → ∀ l, zQ none m_X10_value (d + 3) 4 [(0, .ref 1), (1, .long l), (3, .int (nI a))] [] h (pL h (fun x => x = vOut (vA s.f s.w n a (l, false)))) := by
    intro n
    induction n with
    | zero =>
      intro a ha l
      rw [Nat.zero_add] at ha
      subst ha
      exact r_X10_value_4 _ _ hw ⟨fun _ => mk_pL rfl, fun q => absurd e40 q⟩
    | succ n ih =>
      intro a ha l
      refine r_X10_value_4 _ _ hw ⟨fun q => absurd q (n40 (by omega)), fun _ => ?_⟩
      rw [nI_add]
      exact B (a := a) (by omega) (F := vA s.f s.w n (a + 1)) (fun q hq => vA_m _ _ hq) (fun l => ih (a + 1) (by omega) l) (39 - a) (a + 1) (by omega) (by omega) l
  exact A 40 0 rfl 0
theorem bI_or (x y : Bool) : bI x ||| bI y = bI (x || y) := by cases x <;> cases y <;> decide
theorem m_value (hw : zWF h) (hC : MN h s) : zK (d + 3) m_X11_value [.ref 53] h (pL h (fun x => x = vOut (vA s.f s.w 40 0 (0, false)))) := by
  refine r_X11_value_0 hw ?_
  have C : ∀ {a b : Nat}, b < 40 → a < b → gb (s.f a) b = true → ∀ {F : Vst → Vst}, (∀ q : Vst, zQ none m_X11_value (d + 3) 20 [(0, .ref 53), (1, .long q.1), (3, .int (bI q.2)), (4, .int (nI a)), (5, .int (nI (b + 1)))] [] h (pL h (fun x => x = vOut (F q)))) → ∀ n c, n + c = 40 → b < c → ∀ q : Vst, zQ none m_X11_value (d + 3) 47 [(0, .ref 53), (1, .long q.1), (3, .int (bI q.2)), (4, .int (nI a)), (5, .int (nI b)), (6, .int (nI c))] [] h (pL h (fun x => x = vOut (F (vC s.f s.w a b n c q)))) := by
    intro a b hb hab hg F ret n
    induction n with
    | zero =>
      intro c hc hbc q
      rw [Nat.zero_add] at hc
      subst hc
      refine r_X11_value_47 _ _ _ _ _ hw ⟨fun _ => ?_, fun q => absurd e40 q⟩
      rw [nI_add]
      exact ret q
    | succ n ih =>
      intro c hc hbc q
      have ha : a < 40 := by omega
      have hc' : c < 40 := by omega
      refine r_X11_value_47 _ _ _ _ _ hw ⟨fun q => absurd q (n40 hc'), fun _ => use_pI (m_isEdge hw ha hc') ?_⟩
      rw [hC.1, nI_add]
      show (bI (gb (s.f a) c) = 0 → _) ∧ (¬ bI (gb (s.f a) c) = 0 → _)
      have skip : (gb (s.f a) c && gb (s.f b) c) = false → zQ none m_X11_value (d + 3) 47 [(0, .ref 53), (1, .long q.1), (3, .int (bI q.2)), (4, .int (nI a)), (5, .int (nI b)), (6, .int (nI (c + 1)))] [] h (pL h (fun x => x = vOut (F (vC s.f s.w a b (n + 1) c q)))) := by
        intro z
        have e : vC s.f s.w a b (n + 1) c q = vC s.f s.w a b n (c + 1) q := by
          show vC s.f s.w a b n (c + 1) (vT s.f s.w a b c q) = _
          unfold vT; rw [z]; rfl
        rw [e]
        exact ih (c + 1) (by omega) (by omega) q
      refine ⟨fun z => skip (by rw [bFb z]; rfl), fun z => use_pI (m_isEdge hw hb hc') ?_⟩
      rw [hC.1]
      show (¬ bI (gb (s.f b) c) = 0 → _) ∧ (bI (gb (s.f b) c) = 0 → _)
      refine ⟨fun y => ?_, fun y => skip (by rw [bFb y, Bool.and_false])⟩
      have g1 := bTb z
      have g2 := bTb y
      refine use_pI (m_edge ha hb) ⟨vp_in_nI (pr_lt ha hb) (by decide), use_pI (m_edge ha hc') ⟨vp_in_nI (pr_lt ha hc') (by decide), use_pI (m_edge hb hc') ⟨vp_in_nI (pr_lt hb hc') (by decide), ?_⟩⟩⟩
      rw [cl_n (pr_lt ha hb) (by decide), cl_n (pr_lt ha hc') (by decide), cl_n (pr_lt hb hc') (by decide), hC.2.1 a b ha hb hg, hC.2.1 a c ha hc' g1, hC.2.1 b c hb hc' g2]
      have e : vC s.f s.w a b (n + 1) c q = vC s.f s.w a b n (c + 1) (q.1 + triB s.w a b c, q.2 || ovf q.1 (triB s.w a b c)) := by
        show vC s.f s.w a b n (c + 1) (vT s.f s.w a b c q) = _
        unfold vT; rw [g1, g2]; rfl
      rw [e, sgn, sgn]
      have go : ∀ t : Bool, t = ovf q.1 (triB s.w a b c) → zQ none m_X11_value (d + 3) 47 [(0, .ref 53), (1, .long (q.1 + triB s.w a b c)), (3, .int (bI q.2 ||| bI t)), (4, .int (nI a)), (5, .int (nI b)), (6, .int (nI (c + 1)))] [] h (pL h (fun x => x = vOut (F (vC s.f s.w a b n (c + 1) (q.1 + triB s.w a b c, q.2 || ovf q.1 (triB s.w a b c)))))) := by
        intro t ht
        subst ht
        rw [bI_or]
        exact ih (c + 1) (by omega) (by omega) (q.1 + triB s.w a b c, q.2 || ovf q.1 (triB s.w a b c))
      refine ⟨fun k1 => go false ?_, fun k1 => ⟨fun k2 => go false ?_, fun k2 => go true ?_⟩⟩
      · show false = (gb (q.1 ^^^ (q.1 + triB s.w a b c)) 63 && _)
        rw [show gb (q.1 ^^^ (q.1 + triB s.w a b c)) 63 = false from k1]; rfl
      · show false = (_ && gb (triB s.w a b c ^^^ (q.1 + triB s.w a b c)) 63)
        rw [show gb (triB s.w a b c ^^^ (q.1 + triB s.w a b c)) 63 = false from k2, Bool.and_false]
      · show true = (gb (q.1 ^^^ (q.1 + triB s.w a b c)) 63 && gb (triB s.w a b c ^^^ (q.1 + triB s.w a b c)) 63)
        rw [show gb (q.1 ^^^ (q.1 + triB s.w a b c)) 63 = true from ts_nf k1, show gb (triB s.w a b c ^^^ (q.1 + triB s.w a b c)) 63 = true from ts_nf k2]; rfl
  have B : ∀ {a : Nat}, a < 40 → ∀ {F : Vst → Vst}, (∀ q : Vst, zQ none m_X11_value (d + 3) 7 [(0, .ref 53), (1, .long q.1), (3, .int (bI q.2)), (4, .int (nI (a + 1)))] [] h (pL h (fun x => x = vOut (F q)))) → ∀ n b, n + b = 40 → a < b → ∀ q : Vst, zQ none m_X11_value (d + 3) 20 [(0, .ref 53), (1, .long q.1), (3, .int (bI q.2)), (4, .int (nI a)), (5, .int (nI b))] [] h (pL h (fun x => x = vOut (F (vB s.f s.w a n b q)))) := by
    intro a ha F ret n
    induction n with
    | zero =>
      intro b hb hab q
      rw [Nat.zero_add] at hb
      subst hb
      refine r_X11_value_20 _ _ _ _ hw ⟨fun _ => ?_, fun q => absurd e40 q⟩
      rw [nI_add]
      exact ret q
    | succ n ih =>
      intro b hb hab q
      have hb' : b < 40 := by omega
      refine r_X11_value_20 _ _ _ _ hw ⟨fun q => absurd q (n40 hb'), fun _ => use_pI (m_isEdge hw ha hb') ?_⟩
      rw [hC.1, nI_add]
      show (¬ bI (gb (s.f a) b) = 0 → _) ∧ (bI (gb (s.f a) b) = 0 → _)
      have e : vB s.f s.w a (n + 1) b q = vB s.f s.w a n (b + 1) (if gb (s.f a) b = true then vC s.f s.w a b (39 - b) (b + 1) q else q) := rfl
      rw [e]
      refine ⟨fun z => ?_, fun z => ?_⟩
      · rw [if_pos (bTb z)]
        exact C hb' hab (bTb z) (F := fun q => F (vB s.f s.w a n (b + 1) q)) (fun q => ih (b + 1) (by omega) (by omega) q) (39 - b) (b + 1) (by omega) (by omega) q
      · rw [if_neg (by rw [bFb z]; decide)]
        exact ih (b + 1) (by omega) (by omega) q
  have A : ∀ n a, n + a = 40 → ∀ q : Vst, zQ none m_X11_value (d + 3) 7 [(0, .ref 53), (1, .long q.1), (3, .int (bI q.2)), (4, .int (nI a))] [] h (pL h (fun x => x = vOut (vA s.f s.w n a q))) := by
    intro n
    induction n with
    | zero =>
      intro a ha q
      rw [Nat.zero_add] at ha
      subst ha
      refine r_X11_value_7 _ _ _ hw ⟨fun _ => ⟨fun z => mk_pL ?_, fun z => mk_pL ?_⟩, fun q => absurd e40 q⟩
      · show _ = vOut q
        rw [vOut, if_neg (by rw [bFb z]; decide)]
      · show _ = vOut q
        rw [vOut, if_pos (bTb z)]
    | succ n ih =>
      intro a ha q
      refine r_X11_value_7 _ _ _ hw ⟨fun q => absurd q (n40 (by omega)), fun _ => ?_⟩
      rw [nI_add]
      exact B (a := a) (by omega) (F := vA s.f s.w n (a + 1)) (fun q => ih (a + 1) (by omega) q) (39 - a) (a + 1) (by omega) (by omega) q
  exact A 40 0 rfl (0, false)
theorem p_value {c : Nat} (hw : zWF h) (hN : NET c h) : zK (d + 10) m_X10_value [.ref 1] h (kL fun a h1 => zK (d + 10) m_X11_value [.ref 53] h1 (kL fun b h2 => a = b ∧ NET c h2 ∧ same h h2)) := by
  have hN1 := hN
  obtain ⟨s, n, en, qc, qm, qn⟩ := hN
  refine zK_mono (c_value (d := d + 7) hw qc.1) (fun r h' ⟨a, r1, r2, r3⟩ => ⟨a, r1, r2 ▸ hw, r2 ▸ zK_mono (m_value (d := d + 7) hw qm.1) (fun r h' ⟨b, s1, s2, s3⟩ => ⟨b, s1, s2 ▸ hw, r3.trans s3.symm, s2 ▸ hN1, s2 ▸ same_rf⟩)⟩)
end VALUE
