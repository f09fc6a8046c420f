/-! the class's calls, over the class's own numbers -/
def PAPC (h : AH) : Prop := ∃ q : Tx, CP h q
def CS (c : Nat) (s : NS) (h : AH) : Prop := (∃ n en, cN h s n en ∧ num c s n en) ∧ PEEL h ∧ PAPC h
/-- the law's rows are as they were -/
def lfr (h h' : AH) : Prop := h'.L 53 = h.L 53 ∧ h'.I 54 = h.I 54 ∧ h'.L 55 = h.L 55
theorem lfr_rf {h : AH} : lfr h h := ⟨rfl, rfl, rfl⟩
theorem lfr_tr {h h1 h2 : AH} (a : lfr h h1) (b : lfr h1 h2) : lfr h h2 := ⟨b.1.trans a.1, b.2.1.trans a.2.1, b.2.2.trans a.2.2⟩
theorem lfr_f {h h' : AH} {SI SL : List Nat} (a : frm SI SL h h') (h1 : 54 ∉ SI) (h2 : 53 ∉ SL) (h3 : 55 ∉ SL) : lfr h h' := ⟨frm_L a h2, frm_I a h1, frm_L a h3⟩
theorem lfr_p {h h' : AH} (a : pcf h h') : lfr h h' := ⟨a.2.2.2.2 53 (by decide), a.2.2.2.1 54 (by decide) (by decide) (by decide), a.2.2.2.2 55 (by decide)⟩
theorem LN_lfr {h h' : AH} {s : NS} (a : lfr h h') (q : LN h s) : LN h' s := by
  unfold LN at *
  rw [a.1, a.2.1, a.2.2]
  exact q
section CALLS
variable {d : Nat} {h : AH} {s : NS} {n c : Nat} {en : Nat → Ent}
theorem CP_frm {h' : AH} {q : Tx} {SI SL : List Nat} (a : frm SI SL h h') (h1 : ∀ k ∈ SI, k < 56 ∧ k ≠ 37 ∧ k ≠ 38) (hC : CP h q) : CP h' q := by
  obtain ⟨pb, e, hz, he, hpb, hn, h1', hWl, hT, hB, hN, hU⟩ := hC
  have x1 : h'.I pb = h.I pb := frm_I a (fun k => by have := h1 pb k; omega)
  have x2 : h'.I 37 = h.I 37 := frm_I a (fun k => (h1 37 k).2.1 rfl)
  exact ⟨pb, e, ⟨by rw [a.2.2.2.1]; exact hz.1, by rw [a.2.2.1]; exact hz.2⟩, he, hpb, by rw [a.1]; exact hn, by rw [x2]; exact h1', hWl, by rw [x1]; exact hT, by rw [x1]; exact hB, by rw [a.1]; exact hN, by rw [a.2.1]; exact hU⟩
theorem cN_frm2 {h' : AH} {SI SL : List Nat} (hf : frm SI SL h h') (q : cN h s n en) (h1 : ∀ k ∈ [2, 4, 5, 6], k ∉ SI) (h2 : ∀ k ∈ [2, 3], k ∉ SL) : cN h' s n en :=
  ⟨CN_frm hf q.1 (h1 _ (by decide)) (h1 _ (by decide)) (h2 _ (by decide)) (h2 _ (by decide)), CL_frm hf q.2 (h1 _ (by decide)) (h1 _ (by decide))⟩
theorem CS_frm {h' : AH} {SI SL : List Nat} (a : frm SI SL h h') (h1 : ∀ k ∈ SI, k < 56 ∧ k ∉ [2, 4, 5, 6, 12, 16, 17, 18, 37, 38]) (h2 : ∀ k ∈ SL, k ∉ [2, 3, 13]) (q : CS c s h) : CS c s h' := by
  obtain ⟨⟨n, en, q1, q2⟩, q3, q, q4⟩ := q
  refine ⟨⟨n, en, cN_frm2 a q1 (fun k hk z => (h1 k z).2 ?_) (fun k hk z => h2 k z ?_), q2⟩, PEEL_frm a (fun k hk z => (h1 k z).2 ?_) (fun z => h2 13 z (by decide)) q3, q, CP_frm a (fun k z => ⟨(h1 k z).1, fun e => (h1 k z).2 (by subst e; decide), fun e => (h1 k z).2 (by subst e; decide)⟩) q4⟩
  · have : ∀ k ∈ [2, 4, 5, 6], k ∈ [2, 4, 5, 6, 12, 16, 17, 18, 37, 38] := by decide
    exact this k hk
  · have : ∀ k ∈ [2, 3], k ∈ [2, 3, 13] := by decide
    exact this k hk
  · have : ∀ k ∈ [12, 16, 17, 18], k ∈ [2, 4, 5, 6, 12, 16, 17, 18, 37, 38] := by decide
    exact this k hk
/-- the net has changed, the rest has not -/
theorem CS_cfr {h' : AH} {s' : NS} {c' : Nat} (a : cfr h h') (q : CS c s h) (q' : ∃ n en, cN h' s' n en ∧ num c' s' n en) : CS c' s' h' :=
  ⟨q', PEEL_frm a.1 (by decide) (by decide) q.2.1, q.2.2.elim (fun t k => ⟨t, CP_frm a.1 (by decide) k⟩)⟩
def tv (s : NS) (k : Nat) : Int64 := match k with | 0 => lN s.E | 1 => lN (triA s.f) | 2 => lN (rngA s.f) | 3 => lN s.sp | 4 => lN (bnd s.sp) | 5 => s.hv | 6 => lN s.mv | 7 => lN s.cr | 8 => lN s.rb | 9 => lN s.ch | _ => lN (foA s.f)
theorem q_told (k : Nat) (hk : k ≤ 9 ∨ k = 13) (hw : zWF h) (q : CS c s h) : zK (d + 16) m_X10_told [.ref 1, .int (nI k)] h (kL fun x h' => x = tv s k ∧ h' = h) := by
  obtain ⟨⟨n, en, qc, qn⟩, -, -⟩ := q
  have e3 : h.L 3 = s.f := qc.1.1
  obtain ⟨-, -, c1, c2, c3, c4, c5, c6, c7⟩ := id qc.1
  have hsp : s.sp ≤ 1560 := qn.1.2.2.2.1
  have hE : s.E ≤ 780 := by rw [qn.1.2.1]; exact ec_le _
  have ht := triS_le s.f
  have hr := rngS_le s.f
  have ho := foS_le s.f
  have hb := bnd_le s.sp
  refine r_X10_told_0 _ hw ?_
  have hx : ¬ ((nI k).toInt < 0 ∨ (13 : Int) < (nI k).toInt) := by rw [nI_toInt (by omega)]; omega
  have hk' : k ≤ 13 := by omega
  match k, hk' with
  | 0, _ =>
    (repeat' (refine And.intro ?_ ?_)) <;> (try exact fun q => absurd q (by decide))
    exact fun _ => mk_kL hw ⟨by rw [c1, nI_l (by omega)]; rfl, rfl⟩
  | 1, _ =>
    (repeat' (refine And.intro ?_ ?_)) <;> (try exact fun q => absurd q (by decide))
    refine fun _ => use_pI (c_triangles (sh_3 hw)) (mk_kL hw ⟨?_, rfl⟩)
    rw [e3, nI_l (by unfold triA; omega)]; rfl
  | 2, _ =>
    (repeat' (refine And.intro ?_ ?_)) <;> (try exact fun q => absurd q (by decide))
    refine fun _ => use_pI (c_rings (sh_3 hw)) (mk_kL hw ⟨?_, rfl⟩)
    rw [e3, nI_l (by unfold rngA; omega)]; rfl
  | 3, _ =>
    (repeat' (refine And.intro ?_ ?_)) <;> (try exact fun q => absurd q (by decide))
    exact fun _ => mk_kL hw ⟨by rw [c2, nI_l (by omega)]; rfl, rfl⟩
  | 4, _ =>
    (repeat' (refine And.intro ?_ ?_)) <;> (try exact fun q => absurd q (by decide))
    exact fun _ => use_pI (c_bound hw c2 (show s.sp ≤ 1600 by omega)) (mk_kL hw ⟨by rw [nI_l (by omega)]; rfl, rfl⟩)
  | 5, _ =>
    (repeat' (refine And.intro ?_ ?_)) <;> (try exact fun q => absurd q (by decide))
    exact fun _ => mk_kL hw ⟨c3, rfl⟩
  | 6, _ =>
    (repeat' (refine And.intro ?_ ?_)) <;> (try exact fun q => absurd q (by decide))
    exact fun _ => mk_kL hw ⟨c4, rfl⟩
  | 7, _ =>
    (repeat' (refine And.intro ?_ ?_)) <;> (try exact fun q => absurd q (by decide))
    exact fun _ => mk_kL hw ⟨c5, rfl⟩
  | 8, _ =>
    (repeat' (refine And.intro ?_ ?_)) <;> (try exact fun q => absurd q (by decide))
    exact fun _ => mk_kL hw ⟨c6, rfl⟩
  | 9, _ =>
    (repeat' (refine And.intro ?_ ?_)) <;> (try exact fun q => absurd q (by decide))
    exact fun _ => mk_kL hw ⟨c7, rfl⟩
  | 10, _ => omega
  | 11, _ => omega
  | 12, _ => omega
  | 13, _ =>
    (repeat' (refine And.intro ?_ ?_)) <;> (try exact fun q => absurd q (by decide))
    refine fun _ => use_pI (c_fours (sh_3 hw)) (mk_kL hw ⟨?_, rfl⟩)
    rw [e3, nI_l (by unfold foA; omega)]; rfl
theorem vxT {u : Nat} (hu : u < 40) : vxB (nI u) = true := vxB_n hu
theorem twT {u v : Nat} (hu : u < 40) (hv : v < 40) (huv : u ≠ v) : twB (nI u) (nI v) = true := twB_iff.mpr ⟨u, v, hu, hv, huv, rfl, rfl⟩
theorem twF {u : Nat} : twB (nI u) (nI u) = false := by
  unfold twB
  rw [decide_eq_false (p := ¬ nI u = nI u) (fun w => w rfl), Bool.and_false]
theorem q_of0 {u : Nat} (hw : zWF h) (q : CS c s h) (hu : u < 40) : zK (d + 16) m_X10_of [.ref 1, .int (nI u), .int (nI 0)] h (kI fun x h' => x = nI (pc (s.f u)) ∧ h' = h) := by
  obtain ⟨⟨n, en, qc, qn⟩, -, -⟩ := q
  refine r_X10_of_0 _ _ hw (use_pI (c_isVertex _) ?_)
  rw [vxT hu]
  refine ⟨fun _ => ?_, fun q => absurd q bt0⟩
  have hx : ¬ ((nI 0).toInt < 0 ∨ (5 : Int) < (nI 0).toInt) := by decide
  (repeat' (refine And.intro ?_ ?_)) <;> (try exact fun q => absurd q (by decide))
  exact fun _ => use_pI (c_degree (sh_3 hw) hu) (mk_kI hw ⟨by rw [qc.1.1], rfl⟩)
theorem q_of2 {u : Nat} (hw : zWF h) (q : CS c s h) (hu : u < 40) : zK (d + 16) m_X10_of [.ref 1, .int (nI u), .int (nI 2)] h (kI fun x h' => x = bI (gb s.hv u) ∧ h' = h) := by
  obtain ⟨⟨n, en, qc, qn⟩, -, -⟩ := q
  refine r_X10_of_0 _ _ hw (use_pI (c_isVertex _) ?_)
  rw [vxT hu]
  refine ⟨fun _ => ?_, fun q => absurd q bt0⟩
  (repeat' (refine And.intro ?_ ?_)) <;> (try exact fun q => absurd q (by decide))
  refine fun _ => use_pI (c_isHeavy hw hu) ?_
  rw [qc.1.2.2.2.2.1]
  exact ⟨fun z => mk_kI hw ⟨bI_f (bFb z), rfl⟩, fun z => mk_kI hw ⟨bI_t (bTb z), rfl⟩⟩
theorem q_of3 {u : Nat} (hw : zWF h) (q : CS c s h) (hu : u < 40) : zK (d + 16) m_X10_of [.ref 1, .int (nI u), .int (nI 3)] h (kI fun x h' => x = nI (cor s.f u) ∧ CS c s h' ∧ lfr h h') := by
  have q0 := q
  obtain ⟨⟨n, en, qc, qn⟩, -, -⟩ := q
  refine r_X10_of_0 _ _ hw (use_pI (c_isVertex _) ?_)
  rw [vxT hu]
  refine ⟨fun _ => ?_, fun q => absurd q bt0⟩
  (repeat' (refine And.intro ?_ ?_)) <;> (try exact fun q => absurd q (by decide))
  refine fun _ => use_kV (c_layCores hw (sh_3 hw) (sh_40 hw)) (fun h1 hw1 ⟨g, q1, q2⟩ => ⟨vi40 hu, mk_kI hw1 ⟨?_, ?_, ?_⟩⟩)
  · rw [cl40 hu, q1, AH.wI_I, q2 u hu, qc.1.1]
  · exact CS_frm (SI := [40]) (SL := []) (frm_wI q1 (by decide)) (by decide) (by decide) q0
  · exact lfr_f (SI := [40]) (SL := []) (frm_wI q1 (by decide)) (by decide) (by decide) (by decide)
theorem q_two0 {u v : Nat} (hw : zWF h) (q : CS c s h) (hu : u < 40) (hv : v < 40) (huv : u ≠ v) : zK (d + 16) m_X10_two [.ref 1, .int (nI u), .int (nI v), .int (nI 0)] h (kI fun x h' => x = nI (pc (s.f u &&& s.f v)) ∧ h' = h) := by
  obtain ⟨⟨n, en, qc, qn⟩, -, -⟩ := q
  refine r_X10_two_0 _ _ _ hw (use_pI (c_isTwo _ _) ?_)
  rw [twT hu hv huv]
  refine ⟨fun _ => ?_, fun q => absurd q bt0⟩
  (repeat' (refine And.intro ?_ ?_)) <;> (try exact fun q => absurd q (by decide))
  exact fun _ => use_pI (c_shared (sh_3 hw) hu hv) (mk_kI hw ⟨by rw [qc.1.1], rfl⟩)
theorem q_two3 {u v : Nat} (hw : zWF h) (q : CS c s h) (hu : u < 40) (hv : v < 40) (huv : u ≠ v) : zK (d + 16) m_X10_two [.ref 1, .int (nI u), .int (nI v), .int (nI 3)] h (kI fun x h' => x = bI (gb (s.f u) v) ∧ h' = h) := by
  obtain ⟨⟨n, en, qc, qn⟩, -, -⟩ := q
  refine r_X10_two_0 _ _ _ hw (use_pI (c_isTwo _ _) ?_)
  rw [twT hu hv huv]
  refine ⟨fun _ => ?_, fun q => absurd q bt0⟩
  (repeat' (refine And.intro ?_ ?_)) <;> (try exact fun q => absurd q (by decide))
  refine fun _ => use_pI (c_joins hw hu hv) ?_
  rw [qc.1.1]
  exact ⟨fun z => mk_kI hw ⟨bI_f (bFb z), rfl⟩, fun z => mk_kI hw ⟨bI_t (bTb z), rfl⟩⟩
theorem q_near {u : Nat} (hw : zWF h) (q : CS c s h) (hu : u < 40) : zK (d + 16) m_X10_near [.ref 1, .int (nI u)] h (kL fun x h' => x = s.f u ∧ h' = h) := by
  obtain ⟨⟨n, en, qc, qn⟩, -, -⟩ := q
  refine r_X10_near_0 _ hw (use_pI (c_isVertex _) ?_)
  rw [vxT hu]
  refine ⟨fun q => absurd q bt0, fun _ => ⟨vi40 hu, mk_kL hw ⟨?_, rfl⟩⟩⟩
  rw [cl40 hu, qc.1.1]
end CALLS
