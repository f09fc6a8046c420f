/-! the law's loop: its five kinds of step -/
theorem tri_b (f : Nat → Int64) : triA f ≤ 51200 := by
  have := triS_le f
  unfold triA
  omega
section LAWS2
variable {d : Nat} {h : AH} {s : NS} {c : Nat} {L : Nat} {xs : Nat → Int32} {Q : Option Value → AH → Prop} {i6 : Int32} {u v k : Nat}
theorem q_truss2 {e : Nat} (he : e < 1600) (hE : isE s.f e = true) (hw : zWF h) (q : CS c s h) : zK (d + 16) m_X10_truss [.ref 1, .int (nI (ptr s.f e))] h (kI fun x h' => (∃ t, x = nI t ∧ 1 ≤ t ∧ t ≤ 1600) ∧ CS c s h' ∧ lfr h h') :=
  use_kI (q_truss _ hw q) (fun x h1 hw1 ⟨a1, a3, a4⟩ => ⟨⟨_, a1, fb_ct_pos.mpr ⟨e, he, inT_self hE⟩, fb_ct_le _ _⟩, a3, a4⟩)
theorem q_hood2 (hw : zWF h) (q : CS c s h) (hH : HI s) (hL : LN h s) (hu : u < 40) (hv : v < 40) (huv : u ≠ v) (hg : gb (s.f u) v = true) : zK (d + 16) m_X10_hood [.ref 1, .int (nI u), .int (nI v), .int (nI (ptr s.f (pr u v)))] h (kI fun x h' => (∃ t, x = nI t ∧ 1 ≤ t ∧ t ≤ 1600) ∧ CS c s h' ∧ lfr h h') := by
  have hE : isE s.f (pr u v) = true := by rw [isE_pr (CS_GF q).1 hu hv huv]; exact hg
  refine use_kI (q_hood _ hw q hu hv huv hg) (fun x h1 hw1 ⟨a1, a3, a4⟩ => ⟨⟨_, a1, ?_, ?_⟩, a3, a4⟩)
  · rw [if_pos (inT_self hE)]
    exact fb_ct_pos.mpr ⟨pr u v, pr_lt hu hv, cnB_iff.mpr Cn_rf⟩
  · rw [if_pos (inT_self hE)]
    exact fb_ct_le _ _
theorem q_hood3 (hw : zWF h) (q : CS c s h) (hH : HI s) (hL : LN h s) (hu : u < 40) (hv : v < 40) (huv : u ≠ v) (hg : gb (s.f u) v = true) : zK (d + 16) m_X10_hood [.ref 1, .int (nI u), .int (nI v), .int (nI (ptr s.f (pr u v) + 1))] h (kI fun x h' => x = 0 ∧ CS c s h' ∧ lfr h h') := by
  refine use_kI (q_hood _ hw q hu hv huv hg) (fun x h1 hw1 ⟨a1, a3, a4⟩ => ⟨?_, a3, a4⟩)
  rw [a1, if_neg (by rw [inT_next]; decide)]
  rfl
theorem law_411 (hw : zWF h) (q : CS c s h) (hH : HI s) (hL : LN h s) (hu : u < 40) (hv : v < 40) (huv : u ≠ v) (K : ∀ h' c', c' ≤ c + 1 → zWF h' → IN c' h' → zQ (some (L, xs)) m_L_law (d + 17 + 1) 609 [(0, .ref 0), (1, .ref 1), (2, .ref 53), (3, .ref 54), (4, .ref 55), (6, .int i6), (9, .int (nI u))] [] h' Q) : zQ (some (L, xs)) m_L_law (d + 17 + 1) 411 [(0, .ref 0), (1, .ref 1), (2, .ref 53), (3, .ref 54), (4, .ref 55), (6, .int i6), (9, .int (nI u)), (10, .int (nI v)), (11, .int (bI (gb (s.f u) v))), (12, .long (lN (triA s.f))), (14, .long (lN s.E)), (16, .int (nI (pc (s.f u &&& s.f v)))), (17, .int (nI k))] [] h Q := by
  have look := law_523 (i6 := i6) (Q := Q) (L := L) (xs := xs) (d := d) (u := u) hw q hH hL (fun h' hw' q' => K h' c (Nat.le_succ c) hw' q')
  refine r_L_law_411 L xs _ _ _ _ _ _ _ _ hw ⟨fun _ => look, fun _ => ⟨fun _ => look, fun z => ?_⟩⟩
  have hg := bTb z
  have hf := CS_GF q
  have hp := pr_lt hu hv
  have hE : isE s.f (pr u v) = true := by rw [isE_pr hf.1 hu hv huv]; exact hg
  obtain ⟨p1, p2⟩ := ptr_sup hf hp hE
  have p3 := ptr_core hf hu hv huv hg
  have p4 := ptr_le (f := s.f) (pr u v)
  have p5 := corN_le s.f u 39
  have p6 := pc_le (s.f u &&& s.f v)
  have p7 := CS_E q
  have p8 := CS_sp q
  rw [sup_pr hu hv huv] at p2
  refine use_kI (q_edge1 (d := d + 1) hw q hu hv huv hg) (fun x h1 hw1 ⟨ex, q1, f1⟩ => ?_)
  subst ex
  refine ⟨fun y => absurd y ?_, fun _ => ⟨fun y => absurd y ?_, fun _ => use_kI (q_truss2 (d := d + 1) hp hE hw1 q1) (fun x2 h2 hw2 ⟨⟨t2, ex2, a2, b2⟩, q2, f2⟩ => ⟨fun y => absurd y ?_, fun _ => use_kI (q_hood2 (d := d + 1) hw2 q2 hH (LN_lfr (lfr_tr f1 f2) hL) hu hv huv hg) (fun x3 h3 hw3 ⟨⟨t3, ex3, a3, b3⟩, q3, f3⟩ => ⟨fun y => absurd y ?_, fun _ => ?_⟩)⟩)⟩⟩
  · rw [nI_add, nI_ltE (by omega) (by omega)]; omega
  · rw [nI_ltE (by omega) (by decide)]; omega
  · rw [ex2, nI_ltE (by omega) (by decide)]; omega
  · rw [ex3, nI_ltE (by omega) (by decide)]; omega
  · rw [nI_add]
    have f13 := lfr_tr f1 (lfr_tr f2 f3)
    refine use_kI (q_hood3 (d := d + 1) hw3 q3 hH (LN_lfr f13 hL) hu hv huv hg) (fun x4 h4 hw4 ⟨ex4, q4, f4⟩ => ⟨fun y => absurd ex4 y, fun _ => use_kI (q_edge2 (d := d + 1) hw4 q4 hu hv huv hg) (fun x5 h5 hw5 ⟨⟨t5, a5, ex5⟩, q5, f5⟩ => ⟨fun y => absurd (lg_ge.mp y) ?_, fun _ => use_kI (q_of3 (d := d + 1) hw5 q5 hu) (fun x6 h6 hw6 ⟨ex6, q6, f6⟩ => ⟨fun _ => ?_, fun y => absurd ?_ y⟩)⟩)⟩)
    · rw [ex5, nI_l (by omega), Classical.not_not, lN_lt (by omega) (by omega)]
      omega
    · exact K h6 c (Nat.le_succ c) hw6 ⟨s, q6, hH, LN_lfr (lfr_tr f13 (lfr_tr f4 (lfr_tr f5 f6))) hL⟩
    · rw [ex6, nI_subE (by omega), nI_leE (by omega) (by unfold cor; omega)]
      omega
theorem law_345 (hw : zWF h) (q : CS c s h) (hH : HI s) (hL : LN h s) (hu : u < 40) (hv : v < 40) (huv : u ≠ v) (K : ∀ h' c', c' ≤ c + 1 → zWF h' → IN c' h' → zQ (some (L, xs)) m_L_law (d + 17 + 1) 609 [(0, .ref 0), (1, .ref 1), (2, .ref 53), (3, .ref 54), (4, .ref 55), (6, .int i6), (9, .int (nI u))] [] h' Q) : zQ (some (L, xs)) m_L_law (d + 17 + 1) 345 [(0, .ref 0), (1, .ref 1), (2, .ref 53), (3, .ref 54), (4, .ref 55), (6, .int i6), (9, .int (nI u)), (10, .int (nI v)), (11, .int (bI (gb (s.f u) v))), (12, .long (lN (triA s.f))), (14, .long (lN s.E)), (16, .int (nI (pc (s.f u &&& s.f v)))), (17, .int (nI k))] [] h Q := by
  refine r_L_law_345 L xs _ _ _ _ _ _ _ _ hw ⟨fun _ => law_411 hw q hH hL hu hv huv K, fun _ => ?_⟩
  have q0 := q
  obtain ⟨⟨n, en, qc, qn⟩, qP, qT⟩ := q
  have hs := CS_sp q0
  refine use_kI (q_image (d := d + 1) hw qc) (fun x1 h1 hw1 ⟨ex1, c1, c2, c3, f1⟩ => use_kI (any_add (d := d + 1) hw1 (any_rf c1 qn) hu hv huv (z := nI 1) (wbd_of (z := 1) (by decide) (by decide) (by decide))) (fun x2 h2 hw2 A2 => ?_))
  rw [nI_add, nI_remE (by omega) (by decide) (by decide)]
  refine use_kI (any_cut (d := d + 1) hw2 A2 hu (Nat.mod_lt _ (by decide))) (fun x3 h3 hw3 A3 => use_kI (any_back (d := d + 1) hw3 A3) (fun x4 h4 hw4 A4 => use_kI (q_undo (d := d + 1) hw4 A4 c2 c3 qn.1.1) (fun x5 h5 hw5 ⟨ex5, g1, g2⟩ => ?_)))
  subst ex1 ex5
  refine ⟨fun y => absurd rfl y, fun _ => ⟨fun _ => K h5 c (Nat.le_succ c) hw5 ⟨s, ⟨⟨n, en, g1, qn⟩, ?_, ?_⟩, hH, ?_⟩, fun y => absurd ?_ y⟩⟩
  · exact PEEL_frm g2 (by decide) (by decide) (PEEL_frm f1 (by decide) (by decide) qP)
  · obtain ⟨t, qT⟩ := qT
    exact ⟨t, CP_frm g2 (by decide) (CP_frm f1 (by decide) qT)⟩
  · exact LN_lfr (lfr_tr (lfr_f f1 (by decide) (by decide) (by decide)) (lfr_f g2 (by decide) (by decide) (by decide))) hL
  · rw [lg_cmp0, nI_l (by omega)]
theorem law_258 (hw : zWF h) (q : CS c s h) (hH : HI s) (hL : LN h s) (hu : u < 40) (hv : v < 40) (huv : u ≠ v) (K : ∀ h' c', c' ≤ c + 1 → zWF h' → IN c' h' → zQ (some (L, xs)) m_L_law (d + 17 + 1) 609 [(0, .ref 0), (1, .ref 1), (2, .ref 53), (3, .ref 54), (4, .ref 55), (6, .int i6), (9, .int (nI u))] [] h' Q) : zQ (some (L, xs)) m_L_law (d + 17 + 1) 258 [(0, .ref 0), (1, .ref 1), (2, .ref 53), (3, .ref 54), (4, .ref 55), (6, .int i6), (9, .int (nI u)), (10, .int (nI v)), (11, .int (bI (gb (s.f u) v))), (12, .long (lN (triA s.f))), (14, .long (lN s.E)), (16, .int (nI (pc (s.f u &&& s.f v)))), (17, .int (nI k))] [] h Q := by
  refine r_L_law_258 L xs _ _ _ _ _ _ _ _ hw ⟨fun _ => law_345 hw q hH hL hu hv huv K, fun _ => ?_⟩
  have hf := CS_GF q
  have hS := CS_sp q
  have hT := tri_b s.f
  obtain ⟨n, en, qc, qn⟩ := q.1
  refine use_kI (q_cut (d := d + 1) hw qc qn hu hv huv) (fun x h1 hw1 a => ?_)
  cases hg : gb (s.f u) v with
  | false =>
    rcases a with ⟨_, a2, a3⟩ | ⟨a1, _⟩
    · subst a2 a3
      refine ⟨fun _ => ⟨fun y => absurd rfl y, fun _ => use_kL (q_told (d := d + 1) 1 (by decide) hw1 q) (fun x h2 hw2 ⟨ex, eh⟩ => ?_)⟩, fun y => absurd bf0 y⟩
      subst ex eh
      refine ⟨fun _ => ⟨fun y => absurd ((lg_cmp0 _ _).mpr rfl) y, fun _ => use_kI (q_two3 (d := d + 1) hw1 q hu hv huv) (fun x h3 hw3 ⟨ex, eh⟩ => ?_)⟩, fun y => absurd bf0 y⟩
      subst ex eh
      rw [hg]
      refine ⟨fun _ => r_L_law_326 L xs _ _ _ _ hw1 ⟨fun _ => K _ c (Nat.le_succ c) hw1 ⟨s, q, hH, hL⟩, fun y => absurd bf0 y⟩, fun y => absurd bf0 y⟩
    · rw [hg] at a1; cases a1
  | true =>
    rcases a with ⟨a1, _⟩ | ⟨_, a2, a3, a4⟩
    · rw [hg] at a1; cases a1
    · subst a2
      have q1 := CS_cfr a4 q ⟨_, _, a3⟩
      have hL1 : LN h1 s := LN_lfr (lfr_f a4.1 (by decide) (by decide) (by decide)) hL
      have ef : (goS s u v).f = flip s.f u v := (goS_f s u v hS.2.1).1
      refine ⟨fun y => absurd y bt0, fun _ => ⟨fun y => absurd rfl y, fun _ => use_kL (q_told (d := d + 1) 1 (by decide) hw1 q1) (fun x h2 hw2 ⟨ex, eh⟩ => ?_)⟩⟩
      subst ex eh
      have et : tv (goS s u v) 1 = lN (triA s.f) - (nI (pc (s.f u &&& s.f v))).toInt64 := by
        have t1 := tri_go hf hu hv huv hg
        have t2 := pc_le (s.f u &&& s.f v)
        rw [nI_l (by omega), lN_sub (by omega)]
        show lN (triA (goS s u v).f) = _
        rw [ef]
        congr 1
        omega
      refine ⟨fun y => absurd y bt0, fun _ => ⟨fun y => absurd ((lg_cmp0 _ _).mpr et) y, fun _ => use_kI (q_two3 (d := d + 1) hw2 q1 hu hv huv) (fun x h3 hw3 ⟨ex, eh⟩ => ?_)⟩⟩
      subst ex eh
      have hb : gb ((goS s u v).f u) v = false := by
        rw [ef, gb_flip huv (by omega) (by omega), hg, decide_eq_true (Or.inl ⟨rfl, rfl⟩)]; rfl
      rw [hb]
      refine ⟨fun _ => r_L_law_326 L xs _ _ _ _ hw2 ⟨fun y => absurd y bt0, fun _ => ch_go (d := d + 1) hw2 q1 hH hS ((CS_E1 q hu hv huv).2 hg) hf hL1 hu hv huv hg (fun h' hw' q' => K h' (c + 1) (Nat.le_refl _) hw' q')⟩, fun y => absurd bf0 y⟩
theorem law_169 (hw : zWF h) (q : CS c s h) (hH : HI s) (hL : LN h s) (hu : u < 40) (hv : v < 40) (huv : u ≠ v) (K : ∀ h' c', c' ≤ c + 1 → zWF h' → IN c' h' → zQ (some (L, xs)) m_L_law (d + 17 + 1) 609 [(0, .ref 0), (1, .ref 1), (2, .ref 53), (3, .ref 54), (4, .ref 55), (6, .int i6), (9, .int (nI u))] [] h' Q) : zQ (some (L, xs)) m_L_law (d + 17 + 1) 169 [(0, .ref 0), (1, .ref 1), (2, .ref 53), (3, .ref 54), (4, .ref 55), (6, .int i6), (9, .int (nI u)), (10, .int (nI v)), (11, .int (bI (gb (s.f u) v))), (12, .long (lN (triA s.f))), (14, .long (lN s.E)), (16, .int (nI (pc (s.f u &&& s.f v)))), (17, .int (nI k))] [] h Q := by
  refine r_L_law_169 L xs _ _ _ _ _ _ _ _ hw ⟨fun _ => law_258 hw q hH hL hu hv huv K, fun _ => ?_⟩
  have hf := CS_GF q
  have hS := CS_sp q
  have hT := tri_b s.f
  obtain ⟨n, en, qc, qn⟩ := q.1
  refine use_kI (q_add (d := d + 1) (z := nI 3) hw qc qn hu hv huv (wbd_of (z := 3) (by decide) (by decide) (by decide))) (fun x h1 hw1 a => ?_)
  cases hg : gb (s.f u) v with
  | true =>
    rcases a with ⟨_, a2, a3⟩ | ⟨a1, _⟩
    · subst a2 a3
      refine ⟨fun y => absurd y bt0, fun _ => ⟨fun y => absurd rfl y, fun _ => use_kL (q_told (d := d + 1) 1 (by decide) hw1 q) (fun x h2 hw2 ⟨ex, eh⟩ => ?_)⟩⟩
      subst ex eh
      refine ⟨fun y => absurd y bt0, fun _ => ⟨fun y => absurd ((lg_cmp0 _ _).mpr rfl) y, fun _ => use_kI (q_two3 (d := d + 1) hw1 q hu hv huv) (fun x h3 hw3 ⟨ex, eh⟩ => ?_)⟩⟩
      subst ex eh
      rw [hg]
      refine ⟨fun _ => r_L_law_239 L xs _ _ _ _ hw1 ⟨fun _ => K _ c (Nat.le_succ c) hw1 ⟨s, q, hH, hL⟩, fun y => absurd y bt0⟩, fun y => absurd rfl y⟩
    · rw [hg] at a1; cases a1
  | false =>
    rcases a with ⟨a1, _⟩ | ⟨_, a2, a3, a4⟩
    · rw [hg] at a1; cases a1
    · subst a2
      have q1 := CS_cfr a4 q ⟨_, _, a3⟩
      have hL1 : LN h1 s := LN_lfr (lfr_f a4.1 (by decide) (by decide) (by decide)) hL
      have ef : (comeS s u v (nI 3)).f = flip s.f u v := (comeS_f s u v (nI 3)).1
      refine ⟨fun _ => ⟨fun y => absurd rfl y, fun _ => use_kL (q_told (d := d + 1) 1 (by decide) hw1 q1) (fun x h2 hw2 ⟨ex, eh⟩ => ?_)⟩, fun y => absurd bf0 y⟩
      subst ex eh
      have et : tv (comeS s u v (nI 3)) 1 = lN (triA s.f) + (nI (pc (s.f u &&& s.f v))).toInt64 := by
        have t1 := tri_come hf hu hv huv hg
        have t2 := pc_le (s.f u &&& s.f v)
        rw [nI_l (by omega), lN_add]
        show lN (triA (comeS s u v (nI 3)).f) = _
        rw [ef, t1]
      refine ⟨fun _ => ⟨fun y => absurd ((lg_cmp0 _ _).mpr et) y, fun _ => use_kI (q_two3 (d := d + 1) hw2 q1 hu hv huv) (fun x h3 hw3 ⟨ex, eh⟩ => ?_)⟩, fun y => absurd bf0 y⟩
      subst ex eh
      have hb : gb ((comeS s u v (nI 3)).f u) v = true := by
        rw [ef, gb_flip huv (by omega) (by omega), hg, decide_eq_true (Or.inl ⟨rfl, rfl⟩)]; rfl
      rw [hb]
      refine ⟨fun _ => r_L_law_239 L xs _ _ _ _ hw2 ⟨fun y => absurd bf0 y, fun _ => ch_come (d := d + 1) hw2 q1 hH ⟨hS.1, hS.2.1, (CS_E1 q hu hv huv).1 hg⟩ hL1 hu hv huv hg (fun h' hw' q' => K h' (c + 1) (Nat.le_refl _) hw' q')⟩, fun y => absurd rfl y⟩
end LAWS2
