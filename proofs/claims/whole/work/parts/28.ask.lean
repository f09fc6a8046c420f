/-! what is only asked -/
theorem same_frm {h h' : AH} {SI SL : List Nat} (hf : frm SI SL h h') (h1 : ∀ k ∈ SI, k ∈ scI) (h2 : ∀ k ∈ SL, k ∈ [22, 31, 61]) : same h h' := by
  refine ⟨frm_up hf h1 (fun k hk => ?_), ?_, fun j _ => ?_⟩
  · have : ∀ k ∈ [22, 31, 61], k ∈ scL := by decide
    exact this k (h2 k hk)
  · rw [frm_L hf (fun q => absurd (h2 _ q) (by decide))]
  · rw [frm_L hf (fun q => absurd (h2 _ q) (by decide))]
section ASK
variable {d : Nat} {h : AH} {c : Nat}
theorem cN_frm {h' : AH} {s : NS} {n : Nat} {en : Nat → Ent} {SI SL : List Nat} (hf : frm SI SL h h') (q : cN h s n en) (h1 : ∀ k ∈ [2, 4, 5, 6], k ∉ SI) (h2 : ∀ k ∈ [2, 3], k ∉ SL) : cN h' s n en :=
  ⟨CN_frm hf q.1 (h1 _ (by decide)) (h1 _ (by decide)) (h2 _ (by decide)) (h2 _ (by decide)), CL_frm hf q.2 (h1 _ (by decide)) (h1 _ (by decide))⟩
theorem mN_frm {h' : AH} {s : NS} {n : Nat} {en : Nat → Ent} {SI SL : List Nat} (hf : frm SI SL h h') (q : mN h s n en) (h1 : ∀ k ∈ [54, 55], k ∉ SI) (h2 : ∀ k ∈ [53, 58], k ∉ SL) : mN h' s n en :=
  ⟨MN_frm hf q.1 (h1 _ (by decide)) (h1 _ (by decide)) (h2 _ (by decide)) (h2 _ (by decide)), ML_frm hf q.2 (h1 _ (by decide))⟩
theorem sw_in {x : Int32} {n : Nat} (hx : ¬ (x.toInt < 0 ∨ (n : Int) < x.toInt)) : ∃ k, k ≤ n ∧ x = nI k := by
  refine ⟨x.toInt.toNat, by omega, zr_int (by omega)⟩
theorem p_of (x y : Int32) (hw : zWF h) (hN : NET c h) : zK (d + 10) m_X10_of [.ref 1, .int x, .int y] h (kI fun a h1 => zK (d + 10) m_X11_of [.ref 53, .int x, .int y] h1 (kI fun b h2 => a = b ∧ NET c h2 ∧ same h h2)) := by
  have hN1 := hN
  obtain ⟨s, n, en, qc, qm, qn⟩ := hN
  have e3 : h.L 3 = s.f := qc.1.1
  have e58 : h.L 58 = s.f := qm.1.1
  refine r_X10_of_0 _ _ hw (use_pI (c_isVertex _) ?_)
  cases ht : vxB x with
  | false =>
    refine ⟨fun q => absurd bf0 q, fun _ => mk_kI hw (r_X11_of_0 _ _ hw (use_pI (m_isVertex _) ?_))⟩
    rw [ht]
    exact ⟨fun q => absurd bf0 q, fun _ => mk_kI hw ⟨rfl, hN1, same_rf⟩⟩
  | true =>
    obtain ⟨u, hu, rfl⟩ := vxB_iff.mp ht
    refine ⟨fun _ => ?_, fun q => absurd q bt0⟩
    by_cases hx : y.toInt < 0 ∨ ((5 : Nat) : Int) < y.toInt
    · (repeat' (refine And.intro ?_ ?_)) <;> (try exact fun q => absurd hx (by rw [q]; decide))
      refine fun _ => mk_kI hw (r_X11_of_0 _ _ hw (use_pI (m_isVertex _) ?_))
      rw [ht]
      refine ⟨fun _ => ?_, fun q => absurd q bt0⟩
      (repeat' (refine And.intro ?_ ?_)) <;> (try exact fun q => absurd hx (by rw [q]; decide))
      exact fun _ => mk_kI hw ⟨rfl, hN1, same_rf⟩
    · obtain ⟨k, hk, rfl⟩ := sw_in hx
      clear hx
      match k, hk with
      | 0, _ =>
        (repeat' (refine And.intro ?_ ?_)) <;> (try exact fun q => absurd q (by decide))
        refine fun _ => use_pI (c_degree (sh_3 hw) hu) (mk_kI hw (r_X11_of_0 _ _ hw (use_pI (m_isVertex _) ?_)))
        rw [ht]
        refine ⟨fun _ => ?_, fun q => absurd q bt0⟩
        (repeat' (refine And.intro ?_ ?_)) <;> (try exact fun q => absurd q (by decide))
        exact fun _ => use_pI (m_degree hw hu) (mk_kI hw ⟨by rw [e3, e58], hN1, same_rf⟩)
      | 1, _ =>
        (repeat' (refine And.intro ?_ ?_)) <;> (try exact fun q => absurd q (by decide))
        refine fun _ => use_pI (c_trianglesAt (sh_3 hw) hu) (mk_kI hw (r_X11_of_0 _ _ hw (use_pI (m_isVertex _) ?_)))
        rw [ht]
        refine ⟨fun _ => ?_, fun q => absurd q bt0⟩
        (repeat' (refine And.intro ?_ ?_)) <;> (try exact fun q => absurd q (by decide))
        exact fun _ => use_pI (m_trianglesOf hw hu) (mk_kI hw ⟨by rw [e3, e58], hN1, same_rf⟩)
      | 2, _ =>
        (repeat' (refine And.intro ?_ ?_)) <;> (try exact fun q => absurd q (by decide))
        refine fun _ => use_pI (c_isHeavy hw hu) ?_
        have go : ∀ a, a = bI (gb s.hv u) → kI (fun a h1 => zK (d + 10) m_X11_of [.ref 53, .int (nI u), .int (nI 2)] h1 (kI fun b h2 => a = b ∧ NET c h2 ∧ same h h2)) (some (.int a)) h := by
          intro a ha
          refine mk_kI hw (r_X11_of_0 _ _ hw (use_pI (m_isVertex _) ?_))
          rw [ht]
          refine ⟨fun _ => ?_, fun q => absurd q bt0⟩
          (repeat' (refine And.intro ?_ ?_)) <;> (try exact fun q => absurd q (by decide))
          refine fun _ => use_pI (c_has (by omega)) ?_
          rw [qm.1.2.2.2.2.1]
          exact ⟨fun z => mk_kI hw ⟨by rw [ha, bF z]; rfl, hN1, same_rf⟩, fun z => mk_kI hw ⟨by rw [ha, bT z]; rfl, hN1, same_rf⟩⟩
        rw [qc.1.2.2.2.2.1]
        exact ⟨fun z => go _ (bI_f (bF z)), fun z => go _ (bI_t (bT z))⟩
      | 3, _ =>
        (repeat' (refine And.intro ?_ ?_)) <;> (try exact fun q => absurd q (by decide))
        refine fun _ => use_kV (c_layCores hw (sh_3 hw) (sh_40 hw)) (fun h1 hw1 ⟨g, q1, q2⟩ => ⟨vi40 hu, mk_kI hw1 (r_X11_of_0 _ _ hw1 (use_pI (m_isVertex _) ?_))⟩)
        rw [ht]
        refine ⟨fun _ => ?_, fun q => absurd q bt0⟩
        (repeat' (refine And.intro ?_ ?_)) <;> (try exact fun q => absurd q (by decide))
        have f1 : frm [40] [] h h1 := frm_wI q1 (by decide)
        have qc1 := cN_frm f1 qc (by decide) (by decide)
        have qm1 := mN_frm f1 qm (by decide) (by decide)
        have e1 : h1.L 58 = s.f := qm1.1.1
        refine fun _ => r_X11_coreAt_0 _ hw1 (use_kV (m_cores hw1 (by rw [e1]; exact qn.1.1)) (fun h2 hw2 ⟨g2, q3, q4⟩ => ⟨vi40 hu, mk_kI hw2 (mk_kI hw2 ?_)⟩))
        have f2 : frm [60] [] h1 h2 := frm_wI q3 (by decide)
        refine ⟨?_, ⟨_, _, _, cN_frm f2 qc1 (by decide) (by decide), mN_frm f2 qm1 (by decide) (by decide), qn⟩, same_tr (same_frm f1 (by decide) (by decide)) (same_frm f2 (by decide) (by decide))⟩
        rw [cl40 hu, q1, q3, AH.wI_I, AH.wI_I, q2 u hu, q4 u hu, e3, e1]
      | 4, _ =>
        (repeat' (refine And.intro ?_ ?_)) <;> (try exact fun q => absurd q (by decide))
        refine fun _ => use_pI (c_ringsAt (sh_3 hw) hu) (mk_kI hw (r_X11_of_0 _ _ hw (use_pI (m_isVertex _) ?_)))
        rw [ht]
        refine ⟨fun _ => ?_, fun q => absurd q bt0⟩
        (repeat' (refine And.intro ?_ ?_)) <;> (try exact fun q => absurd q (by decide))
        exact fun _ => use_pI (m_ringsOf hw hu) (mk_kI hw ⟨by rw [e3, e58], hN1, same_rf⟩)
      | 5, _ =>
        (repeat' (refine And.intro ?_ ?_)) <;> (try exact fun q => absurd q (by decide))
        refine fun _ => use_pI (c_foursAt (sh_3 hw) hu) (mk_kI hw (r_X11_of_0 _ _ hw (use_pI (m_isVertex _) ?_)))
        rw [ht]
        refine ⟨fun _ => ?_, fun q => absurd q bt0⟩
        (repeat' (refine And.intro ?_ ?_)) <;> (try exact fun q => absurd q (by decide))
        exact fun _ => use_pI (m_foursOf hw hu) (mk_kI hw ⟨by rw [e3, e58], hN1, same_rf⟩)
theorem p_two (x y w : Int32) (hw : zWF h) (hN : NET c h) : zK (d + 10) m_X10_two [.ref 1, .int x, .int y, .int w] h (kI fun a h1 => zK (d + 10) m_X11_two [.ref 53, .int x, .int y, .int w] h1 (kI fun b h2 => a = b ∧ NET c h2 ∧ same h h2)) := by
  have hN1 := hN
  obtain ⟨s, n, en, qc, qm, qn⟩ := hN
  have e3 : h.L 3 = s.f := qc.1.1
  have e58 : h.L 58 = s.f := qm.1.1
  refine r_X10_two_0 _ _ _ hw (use_pI (c_isTwo _ _) ?_)
  cases ht : twB x y with
  | false =>
    refine ⟨fun q => absurd bf0 q, fun _ => mk_kI hw (r_X11_two_0 _ _ _ hw (use_pI (m_areTwo _ _) ?_))⟩
    rw [ht]
    exact ⟨fun q => absurd bf0 q, fun _ => mk_kI hw ⟨rfl, hN1, same_rf⟩⟩
  | true =>
    obtain ⟨u, v, hu, hv, huv, rfl, rfl⟩ := twB_iff.mp ht
    refine ⟨fun _ => ?_, fun q => absurd q bt0⟩
    by_cases hx : w.toInt < 0 ∨ ((4 : Nat) : Int) < w.toInt
    · (repeat' (refine And.intro ?_ ?_)) <;> (try exact fun q => absurd hx (by rw [q]; decide))
      refine fun _ => mk_kI hw (r_X11_two_0 _ _ _ hw (use_pI (m_areTwo _ _) ?_))
      rw [ht]
      refine ⟨fun _ => ?_, fun q => absurd q bt0⟩
      (repeat' (refine And.intro ?_ ?_)) <;> (try exact fun q => absurd hx (by rw [q]; decide))
      exact fun _ => mk_kI hw ⟨rfl, hN1, same_rf⟩
    · obtain ⟨k, hk, rfl⟩ := sw_in hx
      clear hx
      match k, hk with
      | 0, _ =>
        (repeat' (refine And.intro ?_ ?_)) <;> (try exact fun q => absurd q (by decide))
        refine fun _ => use_pI (c_shared (sh_3 hw) hu hv) (mk_kI hw (r_X11_two_0 _ _ _ hw (use_pI (m_areTwo _ _) ?_)))
        rw [ht]
        refine ⟨fun _ => ?_, fun q => absurd q bt0⟩
        (repeat' (refine And.intro ?_ ?_)) <;> (try exact fun q => absurd q (by decide))
        exact fun _ => use_pI (m_shared hw hu hv) (mk_kI hw ⟨by rw [e3, e58], hN1, same_rf⟩)
      | 1, _ =>
        (repeat' (refine And.intro ?_ ?_)) <;> (try exact fun q => absurd q (by decide))
        refine fun _ => ⟨vi40 hu, vi40 hv, use_pI (c_bitCount _) (mk_kI hw (r_X11_two_0 _ _ _ hw (use_pI (m_areTwo _ _) ?_)))⟩
        rw [ht]
        refine ⟨fun _ => ?_, fun q => absurd q bt0⟩
        (repeat' (refine And.intro ?_ ?_)) <;> (try exact fun q => absurd q (by decide))
        refine fun _ => ⟨vi40 hu, vi40 hv, use_pI (c_bits _) (mk_kI hw ⟨?_, hN1, same_rf⟩)⟩
        rw [e3, e58, qc.1.2.2.2.2.1, qm.1.2.2.2.2.1]
      | 2, _ =>
        (repeat' (refine And.intro ?_ ?_)) <;> (try exact fun q => absurd q (by decide))
        refine fun _ => use_pI (c_waysByThree (sh_3 hw) hu hv) (mk_kI hw (r_X11_two_0 _ _ _ hw (use_pI (m_areTwo _ _) ?_)))
        rw [ht]
        refine ⟨fun _ => ?_, fun q => absurd q bt0⟩
        (repeat' (refine And.intro ?_ ?_)) <;> (try exact fun q => absurd q (by decide))
        exact fun _ => use_pI (m_ways hw hu hv) (mk_kI hw ⟨by rw [e3, e58], hN1, same_rf⟩)
      | 3, _ =>
        (repeat' (refine And.intro ?_ ?_)) <;> (try exact fun q => absurd q (by decide))
        refine fun _ => use_pI (c_joins hw hu hv) ?_
        have go : ∀ a, a = bI (gb (s.f u) v) → kI (fun a h1 => zK (d + 10) m_X11_two [.ref 53, .int (nI u), .int (nI v), .int (nI 3)] h1 (kI fun b h2 => a = b ∧ NET c h2 ∧ same h h2)) (some (.int a)) h := by
          intro a ha
          refine mk_kI hw (r_X11_two_0 _ _ _ hw (use_pI (m_areTwo _ _) ?_))
          rw [ht]
          refine ⟨fun _ => ?_, fun q => absurd q bt0⟩
          (repeat' (refine And.intro ?_ ?_)) <;> (try exact fun q => absurd q (by decide))
          refine fun _ => use_pI (m_isEdge hw hu hv) ?_
          rw [e58]
          exact ⟨fun z => mk_kI hw ⟨by rw [ha, bF z]; rfl, hN1, same_rf⟩, fun z => mk_kI hw ⟨by rw [ha, bT z]; rfl, hN1, same_rf⟩⟩
        rw [e3]
        exact ⟨fun z => go _ (bI_f (bF z)), fun z => go _ (bI_t (bT z))⟩
      | 4, _ =>
        (repeat' (refine And.intro ?_ ?_)) <;> (try exact fun q => absurd q (by decide))
        refine fun _ => use_pI (c_far (sh_3 hw) hu hv) (mk_kI hw (r_X11_two_0 _ _ _ hw (use_pI (m_areTwo _ _) ?_)))
        rw [ht]
        refine ⟨fun _ => ?_, fun q => absurd q bt0⟩
        (repeat' (refine And.intro ?_ ?_)) <;> (try exact fun q => absurd q (by decide))
        exact fun _ => use_pI (m_far hw (by rw [e58]; exact qn.1.1) hu hv huv) (mk_kI hw ⟨by rw [e3, e58], hN1, same_rf⟩)
theorem p_core (x : Int32) (hw : zWF h) (hN : NET c h) : zK (d + 10) m_X10_core [.ref 1, .int x] h (kL fun a h1 => zK (d + 10) m_X11_core [.ref 53, .int x] h1 (kL fun b h2 => a = b ∧ NET c h2 ∧ same h h2)) := by
  have hN1 := hN
  obtain ⟨s, n, en, qc, qm, qn⟩ := hN
  refine r_X10_core_0 _ hw (use_pL (c_coreWithin _ _ (sh_3 hw)) (mk_kL hw (r_X11_core_0 _ hw (use_pL (m_coreOf _ hw) (mk_kL hw ⟨?_, hN1, same_rf⟩)))))
  rw [qc.1.1, qm.1.1]
theorem p_picked (hw : zWF h) (hN : NET c h) (hp : h.L 2 10 = h.L 53 7) : zK (d + 10) m_X10_picked [.ref 1] h (kL fun a h1 => zK (d + 10) m_X11_picked [.ref 53] h1 (kL fun b h2 => a = b ∧ NET c h2 ∧ same h h2)) :=
  r_X10_picked_0 hw (mk_kL hw (r_X11_picked_0 hw (mk_kL hw ⟨hp, hN, same_rf⟩)))
theorem p_told (x : Int32) (hw : zWF h) (hN : NET c h) (hc : c ≤ 4000000) (hP : h.I 37 1 = h.I 53 25) : zK (d + 10) m_X10_told [.ref 1, .int x] h (kL fun a h1 => zK (d + 10) m_X11_told [.ref 53, .int x] h1 (kL fun b h2 => a = b ∧ NET c h2 ∧ same h h2)) := by
  have hN1 := hN
  obtain ⟨s, n, en, qc, qm, qn⟩ := hN
  have e3 : h.L 3 = s.f := qc.1.1
  have e58 : h.L 58 = s.f := qm.1.1
  obtain ⟨-, -, c1, c2, c3, c4, c5, c6, c7⟩ := id qc.1
  obtain ⟨-, -, m1, m2, m3, m4, m5, m6, m7⟩ := id qm.1
  obtain ⟨b1, b2, b3, b4⟩ := qn.2.2
  have hsp : s.sp ≤ 1560 := qn.1.2.2.2.1
  refine r_X10_told_0 _ hw ?_
  by_cases hx : x.toInt < 0 ∨ ((13 : Nat) : Int) < x.toInt
  · (repeat' (refine And.intro ?_ ?_)) <;> (try exact fun q => absurd hx (by rw [q]; decide))
    refine fun _ => mk_kL hw (r_X11_told_0 _ hw ?_)
    (repeat' (refine And.intro ?_ ?_)) <;> (try exact fun q => absurd hx (by rw [q]; decide))
    exact fun _ => mk_kL hw ⟨rfl, hN1, same_rf⟩
  · obtain ⟨k, hk, rfl⟩ := sw_in hx
    clear hx
    match k, hk with
    | 0, _ =>
      (repeat' (refine And.intro ?_ ?_)) <;> (try exact fun q => absurd q (by decide))
      refine fun _ => mk_kL hw (r_X11_told_0 _ hw ?_)
      (repeat' (refine And.intro ?_ ?_)) <;> (try exact fun q => absurd q (by decide))
      refine fun _ => ⟨v5, mk_kL hw ⟨?_, hN1, same_rf⟩⟩
      rw [k5, c1, m1]
    | 1, _ =>
      (repeat' (refine And.intro ?_ ?_)) <;> (try exact fun q => absurd q (by decide))
      refine fun _ => use_pI (c_triangles (sh_3 hw)) (mk_kL hw (r_X11_told_0 _ hw ?_))
      (repeat' (refine And.intro ?_ ?_)) <;> (try exact fun q => absurd q (by decide))
      refine fun _ => use_pI (m_triangles hw) (mk_kL hw ⟨?_, hN1, same_rf⟩)
      rw [e3, e58]
    | 2, _ =>
      (repeat' (refine And.intro ?_ ?_)) <;> (try exact fun q => absurd q (by decide))
      refine fun _ => use_pI (c_rings (sh_3 hw)) (mk_kL hw (r_X11_told_0 _ hw ?_))
      (repeat' (refine And.intro ?_ ?_)) <;> (try exact fun q => absurd q (by decide))
      refine fun _ => use_pI (m_rings hw) (mk_kL hw ⟨?_, hN1, same_rf⟩)
      rw [e3, e58]
    | 3, _ =>
      (repeat' (refine And.intro ?_ ?_)) <;> (try exact fun q => absurd q (by decide))
      refine fun _ => mk_kL hw (r_X11_told_0 _ hw ?_)
      (repeat' (refine And.intro ?_ ?_)) <;> (try exact fun q => absurd q (by decide))
      refine fun _ => ⟨v0, mk_kL hw ⟨?_, hN1, same_rf⟩⟩
      rw [k0, c2, m2]
    | 4, _ =>
      (repeat' (refine And.intro ?_ ?_)) <;> (try exact fun q => absurd q (by decide))
      refine fun _ => use_pI (c_bound hw c2 (show s.sp ≤ 1600 by omega)) (mk_kL hw (r_X11_told_0 _ hw ?_))
      (repeat' (refine And.intro ?_ ?_)) <;> (try exact fun q => absurd q (by decide))
      refine fun _ => use_pI (m_bound hw m2 (show s.sp ≤ 1600 by omega)) (mk_kL hw ⟨?_, hN1, same_rf⟩)
      rfl
    | 5, _ =>
      (repeat' (refine And.intro ?_ ?_)) <;> (try exact fun q => absurd q (by decide))
      refine fun _ => mk_kL hw (r_X11_told_0 _ hw ?_)
      (repeat' (refine And.intro ?_ ?_)) <;> (try exact fun q => absurd q (by decide))
      refine fun _ => mk_kL hw ⟨?_, hN1, same_rf⟩
      rw [c3, m3]
    | 6, _ =>
      (repeat' (refine And.intro ?_ ?_)) <;> (try exact fun q => absurd q (by decide))
      refine fun _ => mk_kL hw (r_X11_told_0 _ hw ?_)
      (repeat' (refine And.intro ?_ ?_)) <;> (try exact fun q => absurd q (by decide))
      refine fun _ => ⟨v1, mk_kL hw ⟨?_, hN1, same_rf⟩⟩
      rw [k1, c4, m4, nI_l (by omega)]
    | 7, _ =>
      (repeat' (refine And.intro ?_ ?_)) <;> (try exact fun q => absurd q (by decide))
      refine fun _ => mk_kL hw (r_X11_told_0 _ hw ?_)
      (repeat' (refine And.intro ?_ ?_)) <;> (try exact fun q => absurd q (by decide))
      refine fun _ => ⟨v2, mk_kL hw ⟨?_, hN1, same_rf⟩⟩
      rw [k2, c5, m5, nI_l (by omega)]
    | 8, _ =>
      (repeat' (refine And.intro ?_ ?_)) <;> (try exact fun q => absurd q (by decide))
      refine fun _ => mk_kL hw (r_X11_told_0 _ hw ?_)
      (repeat' (refine And.intro ?_ ?_)) <;> (try exact fun q => absurd q (by decide))
      refine fun _ => ⟨v3, mk_kL hw ⟨?_, hN1, same_rf⟩⟩
      rw [k3, c6, m6, nI_l (by omega)]
    | 9, _ =>
      (repeat' (refine And.intro ?_ ?_)) <;> (try exact fun q => absurd q (by decide))
      refine fun _ => mk_kL hw (r_X11_told_0 _ hw ?_)
      (repeat' (refine And.intro ?_ ?_)) <;> (try exact fun q => absurd q (by decide))
      refine fun _ => ⟨v4, mk_kL hw ⟨?_, hN1, same_rf⟩⟩
      rw [k4, c7, m7, nI_l (by omega)]
    | 10, _ =>
      (repeat' (refine And.intro ?_ ?_)) <;> (try exact fun q => absurd q (by decide))
      refine fun _ => mk_kL hw (r_X11_told_0 _ hw ?_)
      (repeat' (refine And.intro ?_ ?_)) <;> (try exact fun q => absurd q (by decide))
      refine fun _ => ⟨v6, mk_kL hw ⟨?_, hN1, same_rf⟩⟩
      rw [k6, qc.2.1, qm.2.1]
    | 11, _ =>
      (repeat' (refine And.intro ?_ ?_)) <;> (try exact fun q => absurd q (by decide))
      refine fun _ => use_pI (c_twos (sh_3 hw)) (mk_kL hw (r_X11_told_0 _ hw ?_))
      (repeat' (refine And.intro ?_ ?_)) <;> (try exact fun q => absurd q (by decide))
      refine fun _ => use_pI (m_allTwos hw) (mk_kL hw ⟨?_, hN1, same_rf⟩)
      rw [e3, e58]
    | 12, _ =>
      (repeat' (refine And.intro ?_ ?_)) <;> (try exact fun q => absurd q (by decide))
      refine fun _ => mk_kL hw (r_X11_told_0 _ hw ?_)
      (repeat' (refine And.intro ?_ ?_)) <;> (try exact fun q => absurd q (by decide))
      refine fun _ => mk_kL hw ⟨?_, hN1, same_rf⟩
      rw [hP]
    | 13, _ =>
      (repeat' (refine And.intro ?_ ?_)) <;> (try exact fun q => absurd q (by decide))
      refine fun _ => use_pI (c_fours (sh_3 hw)) (mk_kL hw (r_X11_told_0 _ hw ?_))
      (repeat' (refine And.intro ?_ ?_)) <;> (try exact fun q => absurd q (by decide))
      refine fun _ => use_pI (m_fours hw) (mk_kL hw ⟨?_, hN1, same_rf⟩)
      rw [e3, e58]
end ASK
