/-! the calls on edges, in pairs -/
def NET (c : Nat) (h : AH) : Prop := ∃ s n en, cN h s n en ∧ mN h s n en ∧ num c s n en
theorem bt0 : ¬ bI true = 0 := by decide
theorem bf0 : bI false = 0 := by decide
theorem wbd_1 {z : Int32} (q : wbd z) : ¬ z < (-2000000) := by
  rw [Int32.lt_iff_toInt_lt]
  have := q.1
  show ¬ z.toInt < -2000000
  omega
theorem wbd_2 {z : Int32} (q : wbd z) : z ≤ nI 2000000 := by
  rw [Int32.le_iff_toInt_le]
  exact q.2
theorem wbd_3 {z : Int32} (q : wbd z) : ¬ nI 2000000 < z := by
  rw [Int32.lt_iff_toInt_lt]
  have := q.2
  show ¬ 2000000 < z.toInt
  omega
theorem wbd_n {z : Int32} (q : ¬ wbd z) : z < (-2000000) ∨ (¬ z < (-2000000) ∧ ¬ z ≤ nI 2000000 ∧ nI 2000000 < z) := by
  rw [Int32.lt_iff_toInt_lt, Int32.lt_iff_toInt_lt, Int32.le_iff_toInt_le]
  show z.toInt < -2000000 ∨ (¬ z.toInt < -2000000 ∧ ¬ z.toInt ≤ 2000000 ∧ 2000000 < z.toInt)
  unfold wbd at q
  omega
section API
variable {d : Nat} {h : AH} {c : Nat}
theorem NET_up {c' : Nat} (hc : c ≤ c') (q : NET c h) : NET c' h := by
  obtain ⟨s, n, en, a, b, e1, e2, e3⟩ := q
  exact ⟨s, n, en, a, b, e1, e2, cb_le hc e3⟩
theorem p_add (x y z : Int32) (hw : zWF h) (hN : NET c h) : zK (d + 10) m_X10_add [.ref 1, .int x, .int y, .int z] h (kI fun a h1 => zK (d + 10) m_X11_add [.ref 53, .int x, .int y, .int z] h1 (kI fun b h2 => a = b ∧ NET (c + 1) h2 ∧ same h h2)) := by
  have hN1 := NET_up (Nat.le_succ c) hN
  obtain ⟨s, n, en, qc, qm, qn⟩ := hN
  cases ht : twB x y with
  | false =>
    refine r_X10_add_0 _ _ _ hw (use_pI (c_isTwo _ _) ?_)
    rw [ht]
    refine ⟨fun q => absurd bf0 q, fun _ => mk_kI hw ?_⟩
    refine r_X11_add_0 _ _ _ hw (use_pI (m_areTwo _ _) ?_)
    rw [ht]
    exact ⟨fun q => absurd bf0 q, fun _ => mk_kI hw ⟨rfl, hN1, same_rf⟩⟩
  | true =>
    obtain ⟨u, v, hu, hv, huv, rfl, rfl⟩ := twB_iff.mp ht
    refine r_X10_add_0 _ _ _ hw (use_pI (c_isTwo _ _) ?_)
    rw [ht]
    refine ⟨fun _ => ?_, fun q => absurd q bt0⟩
    by_cases hz : wbd z
    · refine ⟨fun q => absurd q (wbd_1 hz), fun _ => ⟨fun _ => use_pI (c_joins hw hu hv) ?_, fun q => absurd (wbd_2 hz) q⟩⟩
      rw [qc.1.1]
      cases hg : gb (s.f u) v with
      | true =>
        refine ⟨fun q => absurd q bt0, fun _ => mk_kI hw ?_⟩
        refine r_X11_add_0 _ _ _ hw (use_pI (m_areTwo _ _) ?_)
        rw [ht]
        refine ⟨fun _ => use_pI (m_isIn _ _ _) ?_, fun q => absurd q bt0⟩
        rw [decide_eq_true (wbd_1 hz), decide_eq_true (wbd_3 hz)]
        refine ⟨fun _ => use_pI (m_isEdge hw hu hv) ?_, fun q => absurd q bt0⟩
        rw [qm.1.1, hg]
        exact ⟨fun q => absurd q bt0, fun _ => mk_kI hw ⟨rfl, hN1, same_rf⟩⟩
      | false =>
        refine ⟨fun _ => use_kV (c_bringN hw qc qn hu hv huv hg) (fun h1 hw1 ⟨a1, a2⟩ => use_pI (c_shared (sh_3 hw1) hu hv) (mk_kI hw1 ?_)), fun q => absurd bf0 q⟩
        have qm1 := mN_cfr a2 qm
        refine r_X11_add_0 _ _ _ hw1 (use_pI (m_areTwo _ _) ?_)
        rw [ht]
        refine ⟨fun _ => use_pI (m_isIn _ _ _) ?_, fun q => absurd q bt0⟩
        rw [decide_eq_true (wbd_1 hz), decide_eq_true (wbd_3 hz)]
        refine ⟨fun _ => use_pI (m_isEdge hw1 hu hv) ?_, fun q => absurd q bt0⟩
        rw [qm1.1.1, hg]
        refine ⟨fun _ => use_kV (m_comesN hw1 qm1 qn hu hv huv hg) (fun h2 hw2 ⟨b1, b2⟩ => use_pI (m_shared hw2 hu hv) (mk_kI hw2 ⟨?_, ⟨_, _, _, cN_ofr b2 a1, b1, num_come qn hu hv huv hg hz⟩, same_tr (cfr_same a2) (ofr_same b2)⟩)), fun q => absurd bf0 q⟩
        rw [a1.1.1, b1.1.1]
    · rcases wbd_n hz with e1 | ⟨e1, e2, e3⟩
      · refine ⟨fun _ => mk_kI hw ?_, fun q => absurd e1 q⟩
        refine r_X11_add_0 _ _ _ hw (use_pI (m_areTwo _ _) ?_)
        rw [ht]
        refine ⟨fun _ => use_pI (m_isIn _ _ _) ?_, fun q => absurd q bt0⟩
        rw [decide_eq_false (fun q => q e1), Bool.false_and]
        exact ⟨fun q => absurd bf0 q, fun _ => mk_kI hw ⟨rfl, hN1, same_rf⟩⟩
      · refine ⟨fun q => absurd q e1, fun _ => ⟨fun q => absurd q e2, fun _ => mk_kI hw ?_⟩⟩
        refine r_X11_add_0 _ _ _ hw (use_pI (m_areTwo _ _) ?_)
        rw [ht]
        refine ⟨fun _ => use_pI (m_isIn _ _ _) ?_, fun q => absurd q bt0⟩
        rw [decide_eq_false (fun q : ¬ nI 2000000 < z => q e3), Bool.and_false]
        exact ⟨fun q => absurd bf0 q, fun _ => mk_kI hw ⟨rfl, hN1, same_rf⟩⟩
theorem p_cut (x y : Int32) (hw : zWF h) (hN : NET c h) : zK (d + 10) m_X10_cut [.ref 1, .int x, .int y] h (kI fun a h1 => zK (d + 10) m_X11_cut [.ref 53, .int x, .int y] h1 (kI fun b h2 => a = b ∧ NET (c + 1) h2 ∧ same h h2)) := by
  have hN1 := NET_up (Nat.le_succ c) hN
  obtain ⟨s, n, en, qc, qm, qn⟩ := hN
  cases ht : twB x y with
  | false =>
    refine r_X10_cut_0 _ _ hw (use_pI (c_isTwo _ _) ?_)
    rw [ht]
    refine ⟨fun q => absurd bf0 q, fun _ => mk_kI hw ?_⟩
    refine r_X11_cut_0 _ _ hw (use_pI (m_areTwo _ _) ?_)
    rw [ht]
    exact ⟨fun q => absurd bf0 q, fun _ => mk_kI hw ⟨rfl, hN1, same_rf⟩⟩
  | true =>
    obtain ⟨u, v, hu, hv, huv, rfl, rfl⟩ := twB_iff.mp ht
    refine r_X10_cut_0 _ _ hw (use_pI (c_isTwo _ _) ?_)
    rw [ht]
    refine ⟨fun _ => use_pI (c_joins hw hu hv) ?_, fun q => absurd q bt0⟩
    rw [qc.1.1]
    cases hg : gb (s.f u) v with
    | false =>
      refine ⟨fun q => absurd bf0 q, fun _ => mk_kI hw ?_⟩
      refine r_X11_cut_0 _ _ hw (use_pI (m_areTwo _ _) ?_)
      rw [ht]
      refine ⟨fun _ => use_pI (m_isEdge hw hu hv) ?_, fun q => absurd q bt0⟩
      rw [qm.1.1, hg]
      exact ⟨fun q => absurd bf0 q, fun _ => mk_kI hw ⟨rfl, hN1, same_rf⟩⟩
    | true =>
      refine ⟨fun _ => use_kV (c_dropN hw qc qn hu hv huv hg) (fun h1 hw1 ⟨a1, a2⟩ => use_pI (c_shared (sh_3 hw1) hu hv) (mk_kI hw1 ?_)), fun q => absurd q bt0⟩
      have qm1 := mN_cfr a2 qm
      refine r_X11_cut_0 _ _ hw1 (use_pI (m_areTwo _ _) ?_)
      rw [ht]
      refine ⟨fun _ => use_pI (m_isEdge hw1 hu hv) ?_, fun q => absurd q bt0⟩
      rw [qm1.1.1, hg]
      refine ⟨fun _ => use_kV (m_goesN hw1 qm1 qn hu hv huv hg) (fun h2 hw2 ⟨b1, b2⟩ => use_pI (m_shared hw2 hu hv) (mk_kI hw2 ⟨?_, ⟨_, _, _, cN_ofr b2 a1, b1, num_go qn hu hv huv hg⟩, same_tr (cfr_same a2) (ofr_same b2)⟩)), fun q => absurd q bt0⟩
      rw [a1.1.1, b1.1.1]
theorem p_worth (x y : Int32) (hw : zWF h) (hN : NET c h) : zK (d + 10) m_X10_worth [.ref 1, .int x, .int y] h (kL fun a h1 => zK (d + 10) m_X11_worth [.ref 53, .int x, .int y] h1 (kL fun b h2 => a = b ∧ NET c h2 ∧ same h h2)) := by
  have hN1 := hN
  obtain ⟨s, n, en, qc, qm, qn⟩ := hN
  cases ht : twB x y with
  | false =>
    refine r_X10_worth_0 _ _ hw (use_pI (c_isTwo _ _) ?_)
    rw [ht]
    refine ⟨fun _ => mk_kL hw ?_, fun q => absurd bf0 q⟩
    refine r_X11_worth_0 _ _ hw (use_pI (m_areTwo _ _) ?_)
    rw [ht]
    exact ⟨fun _ => mk_kL hw ⟨rfl, hN1, same_rf⟩, fun q => absurd bf0 q⟩
  | true =>
    obtain ⟨u, v, hu, hv, huv, rfl, rfl⟩ := twB_iff.mp ht
    refine r_X10_worth_0 _ _ hw (use_pI (c_isTwo _ _) ?_)
    rw [ht]
    refine ⟨fun q => absurd q bt0, fun _ => use_pI (c_joins hw hu hv) ?_⟩
    rw [qc.1.1]
    cases hg : gb (s.f u) v with
    | false =>
      refine ⟨fun q => absurd bf0 q, fun _ => mk_kL hw ?_⟩
      refine r_X11_worth_0 _ _ hw (use_pI (m_areTwo _ _) ?_)
      rw [ht]
      refine ⟨fun q => absurd q bt0, fun _ => use_pI (m_isEdge hw hu hv) ?_⟩
      rw [qm.1.1, hg]
      exact ⟨fun _ => mk_kL hw ⟨rfl, hN1, same_rf⟩, fun q => absurd bf0 q⟩
    | true =>
      refine ⟨fun _ => use_pI (c_pairOf hu hv) ⟨vp_in_nI (pr_lt hu hv) (by decide), mk_kL hw ?_⟩, fun q => absurd q bt0⟩
      refine r_X11_worth_0 _ _ hw (use_pI (m_areTwo _ _) ?_)
      rw [ht]
      refine ⟨fun q => absurd q bt0, fun _ => use_pI (m_isEdge hw hu hv) ?_⟩
      rw [qm.1.1, hg]
      refine ⟨fun q => absurd q bt0, fun _ => use_pI (m_edge hu hv) ⟨vp_in_nI (pr_lt hu hv) (by decide), mk_kL hw ⟨?_, hN1, same_rf⟩⟩⟩
      rw [cl_n (pr_lt hu hv) (by decide), qc.1.2.1 u v hu hv hg, qm.1.2.1 u v hu hv hg]
theorem p_near (x : Int32) (hw : zWF h) (hN : NET c h) : zK (d + 10) m_X10_near [.ref 1, .int x] h (kL fun a h1 => zK (d + 10) m_X11_near [.ref 53, .int x] h1 (kL fun b h2 => a = b ∧ NET c h2 ∧ same h h2)) := by
  have hN1 := hN
  obtain ⟨s, n, en, qc, qm, qn⟩ := hN
  refine r_X10_near_0 _ hw (use_pI (c_isVertex _) ?_)
  cases ht : vxB x with
  | false =>
    refine ⟨fun _ => mk_kL hw (r_X11_near_0 _ hw (use_pI (m_isVertex _) ?_)), fun q => absurd bf0 q⟩
    rw [ht]
    exact ⟨fun _ => mk_kL hw ⟨rfl, hN1, same_rf⟩, fun q => absurd bf0 q⟩
  | true =>
    obtain ⟨u, hu, rfl⟩ := vxB_iff.mp ht
    refine ⟨fun q => absurd q bt0, fun _ => ⟨vi40 hu, mk_kL hw (r_X11_near_0 _ hw (use_pI (m_isVertex _) ?_))⟩⟩
    rw [ht]
    refine ⟨fun q => absurd q bt0, fun _ => ⟨vi40 hu, mk_kL hw ⟨?_, hN1, same_rf⟩⟩⟩
    rw [qc.1.1, qm.1.1]
theorem p_back (x : Int32) (hw : zWF h) (hN : NET c h) : zK (d + 10) m_X10_back [.ref 1, .int x] h (kI fun a h1 => zK (d + 10) m_X11_back [.ref 53, .int x] h1 (kI fun b h2 => a = b ∧ NET (c + 60) h2 ∧ same h h2)) := by
  have hN1 := NET_up (Nat.le_add_right c 60) hN
  obtain ⟨s, n, en, qc, qm, qn⟩ := hN
  have no : (x < 0 ∨ ¬ x ≤ nI 60) → zK (d + 10) m_X11_back [.ref 53, .int x] h (kI fun b h2 => (-2 : Int32) = b ∧ NET (c + 60) h2 ∧ same h h2) := by
    intro q
    refine r_X11_back_0 _ hw (use_pI (m_isIn _ _ _) ?_)
    have e : (decide (¬ x < nI 0) && decide (¬ nI 60 < x)) = false := by
      rw [Bool.and_eq_false_iff, decide_eq_false_iff_not, decide_eq_false_iff_not]
      rcases q with q | q
      · exact Or.inl (fun z => z q)
      · exact Or.inr (fun z => q (Int32.not_lt.mp z))
    rw [e]
    exact ⟨fun q => absurd bf0 q, fun _ => mk_kI hw ⟨rfl, hN1, same_rf⟩⟩
  refine r_X10_back_0 _ hw ⟨fun q => mk_kI hw (no (Or.inl q)), fun q1 => ⟨fun q2 => ?_, fun q => mk_kI hw (no (Or.inr q))⟩⟩
  obtain ⟨k, hk, rfl⟩ : ∃ k, k ≤ 60 ∧ x = nI k := by
    rw [Int32.lt_iff_toInt_lt] at q1
    rw [Int32.le_iff_toInt_le] at q2
    have q1 : ¬ x.toInt < 0 := q1
    have q2 : x.toInt ≤ 60 := q2
    exact ⟨x.toInt.toNat, by omega, zr_int (by omega)⟩
  refine use_kI (c_takeN k hk hw qc qn) (fun a h1 hw1 ⟨a0, a1, a2⟩ => ?_)
  have qm1 := mN_cfr a2 qm
  refine mk_kI hw1 (r_X11_back_0 _ hw1 (use_pI (m_isIn _ _ _) ?_))
  have e : (decide (¬ nI k < nI 0) && decide (¬ nI 60 < nI k)) = true := by
    rw [Bool.and_eq_true, decide_eq_true_iff, decide_eq_true_iff, nI_ltE (by omega) (by omega), nI_ltE (by omega) (by omega)]
    omega
  rw [e]
  refine ⟨fun _ => zq_mono (m_backN k hk hw1 qm1 qn) (fun r h2 ⟨b, e1, hw2, b0, b1, b2⟩ => ⟨b, e1, hw2, by rw [a0, b0], ⟨_, _, _, cN_ofr b2 a1, b1, ?_⟩, same_tr (cfr_same a2) (ofr_same b2)⟩), fun q => absurd q bt0⟩
  have := (num_bk k qn).1
  exact ⟨this.1, this.2.1, cb_le (by omega) this.2.2⟩
end API
