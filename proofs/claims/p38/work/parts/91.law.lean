/-! the law's loop, step by step -/
theorem two_lN : (2 : Int64) = lN 2 := rfl
section LAWS
variable {d : Nat} {h : AH} {s : NS} {c : Nat} {L : Nat} {xs : Nat → Int32} {Q : Option Value → AH → Prop} {i6 : Int32}
theorem law_656 {u : Nat} (hw : zWF h) (q : CS c s h) (hH : HI s) (hu : u < 40) (k : zQ (some (L, xs)) m_L_law (d + 17 + 1) 51 [(0, .ref 0), (1, .ref 1), (2, .ref 53), (3, .ref 54), (4, .ref 55), (6, .int (i6 + nI 1))] [] h Q) : zQ (some (L, xs)) m_L_law (d + 17 + 1) 656 [(0, .ref 0), (1, .ref 1), (2, .ref 53), (3, .ref 54), (4, .ref 55), (6, .int i6), (9, .int (nI u))] [] h Q := by
  have hS := CS_sp q
  have hd := deg_le hu _ s.f (CS_GF q) rfl
  rw [← CS_E q] at hd
  have hp := pc_le (s.f u)
  have fin : zK (d + 17) m_X10_told [.ref 1, .int (nI 0)] h (kL fun x12 h11 => (0 ≤ (lg_cmp ((2 : Int64) * x12) (nI (pc (s.f u))).toInt64) → zQ (some (L, xs)) m_L_law (d + 17 + 1) 51 [(0, .ref 0), (1, .ref 1), (2, .ref 53), (3, .ref 54), (4, .ref 55), (6, .int (i6 + nI 1))] [] h11 Q) ∧ (¬ 0 ≤ (lg_cmp ((2 : Int64) * x12) (nI (pc (s.f u))).toInt64) → Q (some (.int (nI 0))) h11)) := by
    refine use_kL (q_told (d := d + 1) 0 (by decide) hw q) (fun x h1 hw1 ⟨ex, eh⟩ => ?_)
    subst ex eh
    have e : ¬ (2 : Int64) * tv s 0 < (nI (pc (s.f u))).toInt64 := by
      rw [nI_l (by omega), two_lN, show tv s 0 = lN s.E from rfl, lN_mul, lN_lt (by omega) (by omega)]
      omega
    exact ⟨fun _ => k, fun z => absurd (lg_ge.mpr e) z⟩
  refine r_L_law_656 L xs _ _ hw (use_kI (q_of0 (d := d + 1) hw q hu) (fun x h1 hw1 ⟨ex, eh⟩ => ?_))
  subst ex eh
  refine use_kI (q_of2 (d := d + 1) hw q hu) (fun x h2 hw2 ⟨ex, eh⟩ => ?_)
  subst ex eh
  cases hg : gb s.hv u with
  | false =>
    refine ⟨fun _ => use_kL (q_near (d := d + 1) hw q hu) (fun x h3 hw3 ⟨ex, eh⟩ => ?_), fun z => absurd z (by decide)⟩
    subst ex eh
    exact use_pI (l_bits (d := d + 16) _ hw) ⟨fun z => absurd rfl z, fun _ => ⟨fun _ => fin, fun z => absurd rfl z⟩⟩
  | true =>
    refine ⟨fun z => absurd rfl z, fun _ => use_kL (q_near (d := d + 1) hw q hu) (fun x h3 hw3 ⟨ex, eh⟩ => ?_)⟩
    subst ex eh
    have hb := hH.2 u hu hg
    have hb1 := bnd_1 s.sp
    refine use_pI (l_bits (d := d + 16) _ hw) ⟨fun z => absurd rfl z, fun _ => ⟨fun z => absurd z (by decide), fun _ => ⟨fun _ => fin, fun z => ?_⟩⟩⟩
    rw [nI_eq0 (by omega)] at z
    omega
theorem law_609 {u : Nat} (hc : c ≤ 1000000) (hw : zWF h) (q : IN c h) (hu : u < 40) (k : zQ (some (L, xs)) m_L_law (d + 17 + 1) 51 [(0, .ref 0), (1, .ref 1), (2, .ref 53), (3, .ref 54), (4, .ref 55), (6, .int (i6 + nI 1))] [] h Q) : zQ (some (L, xs)) m_L_law (d + 17 + 1) 609 [(0, .ref 0), (1, .ref 1), (2, .ref 53), (3, .ref 54), (4, .ref 55), (6, .int i6), (9, .int (nI u))] [] h Q := by
  obtain ⟨s, q, hH, hL⟩ := q
  have hS := CS_sp q
  have hb := bnd_le s.sp
  have hbs := bnd_sq (show s.sp ≤ 1600 by omega)
  have hbm : bnd s.sp * bnd s.sp ≤ 1600 := Nat.mul_le_mul hb hb
  refine r_L_law_609 L xs _ _ hw (use_kI (l_sees (d := d) hc hw q hL) (fun x h1 hw1 ⟨ex, eh⟩ => ?_))
  subst ex eh
  refine ⟨fun z => absurd z i1_ne0, fun _ => use_kL (q_told (d := d + 1) 0 (by decide) hw q) (fun x h2 hw2 ⟨ex, eh⟩ => ?_)⟩
  subst ex eh
  refine use_kL (q_told (d := d + 1) 3 (by decide) hw q) (fun x h3 hw3 ⟨ex, eh⟩ => ?_)
  subst ex eh
  refine ⟨fun z => absurd (lg_gt.mp z) ?_, fun _ => use_kL (q_told (d := d + 1) 4 (by decide) hw q) (fun x h4 hw4 ⟨ex, eh⟩ => ?_)⟩
  · show ¬ lN s.sp < lN s.E
    rw [lN_lt (by omega) (by omega)]
    have := hH.1
    omega
  subst ex eh
  refine use_kL (q_told (d := d + 1) 4 (by decide) hw q) (fun x h5 hw5 ⟨ex, eh⟩ => ?_)
  subst ex eh
  refine use_kL (q_told (d := d + 1) 3 (by decide) hw q) (fun x h6 hw6 ⟨ex, eh⟩ => ?_)
  subst ex eh
  refine ⟨fun _ => law_656 hw q hH hu k, fun z => absurd (lg_ge.mpr ?_) z⟩
  show ¬ lN (bnd s.sp) * lN (bnd s.sp) < lN s.sp
  rw [lN_mul, lN_lt (by omega) (by omega)]
  omega
theorem q_broken2 (hw : zWF h) (q : CS c s h) : zK (d + 16) m_X10_broken [.ref 1, .int (nI 0)] h (kI fun x h' => (∃ b, x = nI b ∧ b ≤ 780 ∧ b ≤ triA s.f) ∧ CS c s h' ∧ lfr h h') :=
  use_kI (q_broken hw q) (fun x h1 hw1 ⟨a1, a2, a3, a4⟩ => ⟨⟨_, a1, a2, Nat.zero_add (triA s.f) ▸ brk_le 780 s.f 0 0 (CS_GF q)⟩, a3, a4⟩)
theorem q_hoods2 (K : Int32) (hw : zWF h) (q : CS c s h) : zK (d + 16) m_X10_hoods [.ref 1, .int K] h (kI fun x h' => (∃ b, x = nI b ∧ b ≤ 1600) ∧ CS c s h' ∧ lfr h h') :=
  use_kI (q_hoods K hw q) (fun x h1 hw1 ⟨a1, a3, a4⟩ => ⟨⟨_, a1, fb_ct_le _ _⟩, a3, a4⟩)
theorem sum_ge {a b c : Nat} {y : Int32} (ha : a ≤ 12480) (hb : b ≤ 780) (hc : c ≤ 1600) (hy : y = -5 ∨ ∃ j, 0 ≤ j ∧ j < 5 ∧ y = nI j) : ¬ (nI a + y + nI b + nI c) < (-5) := by
  rw [Int32.lt_iff_toInt_lt]
  have e5 : ((-5) : Int32).toInt = -5 := by decide
  rcases hy with e | ⟨j, _, j2, e⟩
  · rw [e]
    have a1 : (nI a + (-5)).toInt = (a : Int) + (-5) := by
      rw [fb_addI] <;> rw [nI_toInt (by omega), e5] <;> omega
    have a2 : (nI a + (-5) + nI b).toInt = (a : Int) + (-5) + (b : Int) := by
      rw [fb_addI] <;> rw [a1, nI_toInt (by omega)] <;> omega
    have a3 : (nI a + (-5) + nI b + nI c).toInt = (a : Int) + (-5) + (b : Int) + (c : Int) := by
      rw [fb_addI] <;> rw [a2, nI_toInt (by omega)] <;> omega
    rw [a3, e5]
    omega
  · rw [e, nI_add, nI_add, nI_add, nI_toInt (by omega), e5]
    omega
/-- what is only looked at -/
theorem law_523 {u : Nat} (hw : zWF h) (q : CS c s h) (hH : HI s) (hL : LN h s) (k : ∀ h', zWF h' → IN c h' → zQ (some (L, xs)) m_L_law (d + 17 + 1) 609 [(0, .ref 0), (1, .ref 1), (2, .ref 53), (3, .ref 54), (4, .ref 55), (6, .int i6), (9, .int (nI u))] [] h' Q) : zQ (some (L, xs)) m_L_law (d + 17 + 1) 523 [(0, .ref 0), (1, .ref 1), (2, .ref 53), (3, .ref 54), (4, .ref 55), (6, .int i6), (9, .int (nI u)), (12, .long (lN (triA s.f)))] [] h Q := by
  have hf := CS_GF q
  have ht := triS_le s.f
  have htA : triA s.f ≤ 51200 := by unfold triA; omega
  have hr := rngS_le s.f
  have ho := foS_le s.f
  refine r_L_law_523 L xs _ _ _ hw (use_kI (q_spell (d := d + 1) hw q) (fun x1 h1 hw1 ⟨⟨t1, t2, ex1⟩, q1, f1⟩ => use_kI (q_fewest (d := d + 1) hw1 q1) (fun x2 h2 hw2 ⟨ex2, q2, f2⟩ => use_kI (q_broken2 (d := d + 1) hw2 q2) (fun x3 h3 hw3 ⟨⟨t3, ex3, b3, _⟩, q3, f3⟩ => use_kI (q_hoods2 (d := d + 1) (nI 3) hw3 q3) (fun x4 h4 hw4 ⟨⟨t4, ex4, b4⟩, q4, f4⟩ => ⟨fun z => absurd z ?_, fun _ => ?_⟩)))))
  · rw [ex1, ex2, ex3, ex4]
    exact sum_ge t2 b3 b4 (fw_rng s.f 5 0 (by decide))
  · refine use_kI (q_broken2 (d := d + 1) hw4 q4) (fun x5 h5 hw5 ⟨⟨t5, ex5, b5, b6⟩, q5, f5⟩ => ⟨fun z => absurd (lg_gt.mp z) ?_, fun _ => use_kI (q_fewest (d := d + 1) hw5 q5) (fun x6 h6 hw6 ⟨ex6, q6, f6⟩ => ?_)⟩)
    · rw [ex5, nI_l (by omega), lN_lt (by omega) (by omega)]
      omega
    · have hL6 : LN h6 s := LN_lfr (lfr_tr f1 (lfr_tr f2 (lfr_tr f3 (lfr_tr f4 (lfr_tr f5 f6))))) hL
      have fin : zK (d + 17) m_X10_told [.ref 1, .int (nI 13)] h6 (kL fun x19 h18 => zK (d + 17) m_X10_told [.ref 1, .int (nI 2)] h18 (kL fun x21 h20 => ((lg_cmp x19 x21) ≤ 0 → zQ (some (L, xs)) m_L_law (d + 17 + 1) 609 [(0, .ref 0), (1, .ref 1), (2, .ref 53), (3, .ref 54), (4, .ref 55), (6, .int i6), (9, .int (nI u))] [] h20 Q) ∧ (¬ (lg_cmp x19 x21) ≤ 0 → Q (some (.int (nI 0))) h20))) := by
        refine use_kL (q_told (d := d + 1) 13 (by decide) hw6 q6) (fun x h7 hw7 ⟨ex, eh⟩ => ?_)
        subst ex eh
        refine use_kL (q_told (d := d + 1) 2 (by decide) hw6 q6) (fun x h8 hw8 ⟨ex, eh⟩ => ?_)
        subst ex eh
        refine ⟨fun _ => k _ hw6 ⟨s, q6, hH, hL6⟩, fun z => absurd (lg_le.mpr ?_) z⟩
        show ¬ lN (rngA s.f) < lN (foA s.f)
        have := fo_ring hf
        rw [lN_lt (by unfold rngA; omega) (by unfold foA; omega)]
        omega
      have h0 := fw_0 hf
      have hz : lN (triA s.f) = 0 ↔ triA s.f = 0 := by
        rw [show (0 : Int64) = lN 0 from rfl, fb_lN_inj (by omega) (by omega)]
      subst ex6
      by_cases ht0 : triA s.f = 0
      · have e1 := h0.mpr ht0
        have e2 := hz.mpr ht0
        exact ⟨fun z => absurd e1 z, fun _ => ⟨fun z => absurd ((lg_cmp0 _ _).mpr e2) z, fun _ => ⟨fun z => absurd rfl z, fun _ => fin⟩⟩⟩
      · have e1 : ¬ fwN s.f 5 0 = 0 := fun z => ht0 (h0.mp z)
        have e2 : ¬ lN (triA s.f) = 0 := fun z => ht0 (hz.mp z)
        exact ⟨fun _ => ⟨fun _ => ⟨fun z => absurd rfl z, fun _ => fin⟩, fun z => absurd ((lg_cmp0 _ _).mp z) e2⟩, fun z => absurd z e1⟩
end LAWS
