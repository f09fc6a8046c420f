/-! TRUSS, EDGE, PEELED in pairs -/
def inT (f : Nat → Int64) (K : Int32) (e : Nat) : Bool := isE f e && decide (¬ nI (ptr f e) < K)
def plI : List Nat := [12, 15, 16, 17, 18, 19, 20, 53, 62, 63, 64, 65]
def plL : List Nat := [13, 14, 61]
def plf (h h' : AH) : Prop := frm plI plL h h' ∧ ∀ j, j ≠ 16 → h'.I 53 j = h.I 53 j
theorem plf_rf {h : AH} : plf h h := ⟨frm_rf, fun _ _ => rfl⟩
theorem plf_tr {h h1 h2 : AH} (a : plf h h1) (b : plf h1 h2) : plf h h2 := ⟨frm_tr a.1 b.1, fun j q => (b.2 j q).trans (a.2 j q)⟩
theorem plf_c {h h1 : AH} (a : frm pfI pfL h h1) : plf h h1 := ⟨frm_up a (by decide) (by decide), fun j _ => by rw [frm_I a (by decide)]⟩
theorem plf_m {h h1 : AH} (a : mpf h h1) : plf h h1 := ⟨frm_up a.1 (by decide) (by decide), a.2⟩
theorem PF_same {f : Nat → Int64} (hf : GF f) {A B C A' B' C' : Nat → Int32} (h : PF f (ecn f) A B C) (h' : PF f (ecn f) A' B' C') {e : Nat} (he : e < 1600) (hE : isE f e = true) : B e = B' e := by
  obtain ⟨s, hs, q⟩ := pl_all hf he hE
  rw [q, (h s hs).2.1, (h' s hs).2.1]
section TRUSS
variable {d : Nat} {h : AH} {c : Nat} {f : Nat → Int64}
theorem c_edgesFrom (hf : GF f) (K : Int32) (hw : zWF h) (hP : PLF f h) : zK (d + 1) m_X6_edgesFrom [.ref 12, .int K] h (pI h (fun x => x = nI (fb_ct (inT f K) 1600))) := by
  obtain ⟨p1, p2, p3⟩ := hP
  have hm := ecn_le f
  have e : fb_ct (inT f K) 1600 = fb_ct (fun i => decide (¬ nI (ptr f (plE f i)) < K)) (ecn f) := (pl_cnt hf (fun e => decide (¬ nI (ptr f e) < K))).symm
  rw [e]
  refine r_X6_edgesFrom_0 _ hw ?_
  have key : ∀ i, i ≤ ecn f → zQ none m_X6_edgesFrom (d + 1) 4 [(0, .ref 12), (1, .int K), (2, .int (nI (fb_ct (fun i => decide (¬ nI (ptr f (plE f i)) < K)) i))), (3, .int (nI i))] [] h (pI h (fun x => x = nI (fb_ct (fun i => decide (¬ nI (ptr f (plE f i)) < K)) (ecn f)))) := by
    refine nat_down ?_ (fun i hi ih => ?_)
    · exact r_X6_edgesFrom_4 _ _ _ hw ⟨fun _ => mk_pI rfl, fun z => absurd (by rw [p2]; exact (nI_leE (by omega) (by omega)).mpr (Nat.le_refl _)) z⟩
    · obtain ⟨a1, a2, a3⟩ := p3 i hi
      have hb := (plE_ok hf hi).1
      refine r_X6_edgesFrom_4 _ _ _ hw ⟨fun z => absurd (by rw [p2] at z; exact (nI_leE (by omega) (by omega)).mp z) (show ¬ ecn f ≤ i by omega), fun _ => ⟨v780 (by omega), ?_⟩⟩
      rw [cl_n (show i < 780 by omega) (by decide), a3, cl_n hb (by decide), a1, ← ptr_at hf hi, nI_add, nI_add]
      rw [fb_ct_succ] at ih
      refine ⟨v1600 hb, fun z => ?_, fun z => ?_⟩
      · rw [if_neg (by rw [decide_eq_true_iff]; exact fun q => q z), Nat.add_zero] at ih
        exact ih
      · rw [if_pos (by rw [decide_eq_true_iff]; exact z)] at ih
        exact ih
  exact key 0 (Nat.zero_le _)
theorem m_isInTruss {e : Nat} {K : Int32} (he : e < 1600) (hw : zWF h) (e58 : h.L 58 = f) (h62 : ∀ e, e < 1600 → isE f e = true → h.I 62 e = nI (ptr f e)) : zK (d + 3) m_X11_isInTruss [.ref 53, .int (nI e), .int K] h (pI h (fun x => x = bI (inT f K e))) := by
  refine r_X11_isInTruss_0 _ _ hw ?_
  rw [nI_remE (by omega) (by decide) (by decide), nI_divE (by omega) (by decide) (by decide), nI_leE (by omega) (by omega), cl_n he (by decide)]
  unfold inT
  refine ⟨fun z => mk_pI (bI_f ?_), fun z => use_pI (m_isEdge hw (by omega) (by omega)) ?_⟩
  · unfold isE
    rw [decide_eq_false (by omega), Bool.false_and, Bool.false_and]
  · rw [e58]
    have eE : isE f e = gb (f (e / 40)) (e % 40) := by
      unfold isE
      rw [decide_eq_true (by omega), Bool.true_and]
    rw [eE]
    refine ⟨fun y => mk_pI (bI_f ?_), fun y => ⟨v1600 he, ?_⟩⟩
    · rw [show gb (f (e / 40)) (e % 40) = false from bF y, Bool.false_and]
    · rw [h62 e he (by rw [eE]; exact bT y), show gb (f (e / 40)) (e % 40) = true from bT y, Bool.true_and]
      refine ⟨fun w => mk_pI (bI_f (decide_eq_false (fun q => q w))), fun w => mk_pI (bI_t (decide_eq_true w))⟩
theorem p_truss (x : Int32) (hw : zWF h) (hN : NET c h) (hP : PEEL h) : zK (d + 10) m_X10_truss [.ref 1, .int x] h (kI fun a h1 => zK (d + 10) m_X11_truss [.ref 53, .int x] h1 (kI fun b h2 => a = b ∧ NET c h2 ∧ PEEL h2 ∧ plf h h2)) := by
  obtain ⟨s, n, en, qc, qm, qn⟩ := hN
  have hf : GF s.f := qn.1.1
  refine r_X10_truss_0 _ hw (use_kV (c_follow (d := d + 4) hf hw qc.1.1 hP) (fun h1 hw1 ⟨a1, a2⟩ => use_pI (c_edgesFrom hf x hw1 a1) (mk_kI hw1 ?_)))
  have qc1 := cN_frm a2 qc (by decide) (by decide)
  have qm1 := mN_frm a2 qm (by decide) (by decide)
  have e5 : h1.I 54 5 = nI (ecn s.f) := by rw [qm1.1.2.2.1, qn.1.2.1]; rfl
  refine r_X11_truss_0 _ hw1 (use_kV (m_peels (d := d + 4) hf hw1 qm1.1.1 e5) (fun h2 hw2 ⟨b1, b2⟩ => ?_))
  have qc2 := cN_frm b2.1 qc1 (by decide) (by decide)
  have qm2 := mN_frm b2.1 qm1 (by decide) (by decide)
  have P2 : PEEL h2 := PEEL_frm b2.1 (by decide) (by decide) ⟨s.f, hf, a1⟩
  have f2 : plf h h2 := plf_tr (plf_c a2) (plf_m b2)
  have key : ∀ e, e ≤ 1600 → zQ none m_X11_truss (d + 9 + 1) 8 [(0, .ref 53), (1, .int x), (2, .int (nI (fb_ct (inT s.f x) e))), (3, .int (nI e))] [] h2 (kI fun b h2 => nI (fb_ct (inT s.f x) 1600) = b ∧ NET c h2 ∧ PEEL h2 ∧ plf h h2) := by
    refine nat_down ?_ (fun e he ih => ?_)
    · exact r_X11_truss_8 _ _ _ hw2 ⟨fun _ => mk_kI hw2 ⟨rfl, ⟨s, n, en, qc2, qm2, qn⟩, P2, f2⟩, fun z => absurd ((nI_leE (by decide) (by decide)).mpr (Nat.le_refl _)) z⟩
    · refine r_X11_truss_8 _ _ _ hw2 ⟨fun z => absurd ((nI_leE (by decide) (by omega)).mp z) (by omega), fun _ => use_pI (m_isInTruss he hw2 qm2.1.1 (fun e he hE => PF_tr hf b1 he hE)) ?_⟩
      rw [fb_ct_succ] at ih
      rw [nI_add, nI_add, nI_add]
      cases hb : inT s.f x e with
      | true => rw [hb, if_pos rfl] at ih; exact ⟨fun z => absurd z bt0, fun _ => ih⟩
      | false => rw [hb, if_neg (by decide)] at ih; exact ⟨fun _ => ih, fun z => absurd bf0 z⟩
  exact key 0 (Nat.zero_le _)
theorem p_peeled (x y : Int32) (hw : zWF h) (hN : NET c h) (hP : PEEL h) : zK (d + 10) m_X10_peeled [.ref 1, .int x, .int y] h (kI fun a h1 => zK (d + 10) m_X11_peeled [.ref 53, .int x, .int y] h1 (kI fun b h2 => a = b ∧ NET c h2 ∧ PEEL h2 ∧ plf h h2)) := by
  obtain ⟨s, n, en, qc, qm, qn⟩ := hN
  have hf : GF s.f := qn.1.1
  have hm := ecn_le s.f
  refine r_X10_peeled_0 _ _ hw (use_kV (c_follow (d := d + 4) hf hw qc.1.1 hP) (fun h1 hw1 ⟨a1, a2⟩ => ?_))
  have qc1 := cN_frm a2 qc (by decide) (by decide)
  have qm1 := mN_frm a2 qm (by decide) (by decide)
  have e5 : h1.I 54 5 = nI (ecn s.f) := by rw [qm1.1.2.2.1, qn.1.2.1]; rfl
  have P1 : PEEL h1 := ⟨s.f, hf, a1⟩
  obtain ⟨p1, p2, p3⟩ := a1
  have f1 := plf_c a2
  have N1 : NET c h1 := ⟨s, n, en, qc1, qm1, qn⟩
  have no : ((decide (¬ x < nI 0) && decide (¬ nI (ecn s.f) - nI 1 < x)) = false ∨ (decide (¬ y < nI 0) && decide (¬ nI 2 < y)) = false) → zK (d + 10) m_X11_peeled [.ref 53, .int x, .int y] h1 (kI fun b h2 => (-1 : Int32) = b ∧ NET c h2 ∧ PEEL h2 ∧ plf h h2) := by
    intro q
    refine r_X11_peeled_0 _ _ hw1 ⟨vp_in_nI (by decide) (by decide), use_pI (m_isIn _ _ _) ?_⟩
    rw [cl_n (show 5 < 187 by decide) (by decide), e5]
    refine ⟨fun _ => mk_kI hw1 ⟨rfl, N1, P1, f1⟩, fun z => use_pI (m_isIn _ _ _) ⟨fun w => ?_, fun _ => mk_kI hw1 ⟨rfl, N1, P1, f1⟩⟩⟩
    rcases q with q | q
    · rw [q] at z; exact absurd bf0 z
    · rw [q] at w; exact absurd bf0 w
  rw [p2]
  by_cases hx : ∃ k, k < ecn s.f ∧ x = nI k
  · have hxb := (plB2_iff (x := x) (n := ecn s.f) (by omega)).mpr hx
    obtain ⟨k, hk, rfl⟩ := hx
    have hb := (plE_ok hf hk).1
    obtain ⟨b1, b2, b3⟩ := p3 k hk
    refine ⟨fun z => absurd z (nI_lt0 (by omega)), fun _ => ⟨fun z => absurd ((nI_leE (by omega) (by omega)).mp z) (by omega), fun _ => ?_⟩⟩
    rw [cl_n (show k < 780 by omega) (by decide), b3, cl_n hb (by decide), b1]
    refine ⟨fun z => mk_kI hw1 (no (Or.inr ?_)), fun z1 => ⟨fun z2 => ⟨v780 (by omega), ?_⟩, fun z => mk_kI hw1 (no (Or.inr ?_))⟩⟩
    · rw [Bool.and_eq_false_iff, decide_eq_false_iff_not]; exact Or.inl (fun q => q z)
    · have hyb : (decide (¬ y < nI 0) && decide (¬ nI 2 < y)) = true := by
        rw [Bool.and_eq_true, decide_eq_true_iff, decide_eq_true_iff]
        exact ⟨z1, Int32.not_lt.mpr z2⟩
      have M : ∀ v : Int32, v = (if y = nI 0 then nI (plE s.f k / 40) else if y = nI 1 then nI (plE s.f k % 40) else nI (plM s.f (k + 1) + 2)) → kI (fun a h1 => zK (d + 10) m_X11_peeled [.ref 53, .int (nI k), .int y] h1 (kI fun b h2 => a = b ∧ NET c h2 ∧ PEEL h2 ∧ plf h h2)) (some (.int v)) h1 := by
        intro v hv
        refine mk_kI hw1 (r_X11_peeled_0 _ _ hw1 ⟨vp_in_nI (by decide) (by decide), use_pI (m_isIn _ _ _) ?_⟩)
        rw [cl_n (show 5 < 187 by decide) (by decide), e5, hxb]
        refine ⟨fun z => absurd z bt0, fun _ => use_pI (m_isIn _ _ _) ?_⟩
        rw [hyb]
        refine ⟨fun _ => use_kV (m_peels (d := d + 4) hf hw1 qm1.1.1 e5) (fun h2 hw2 ⟨g1, g2⟩ => ?_), fun z => absurd z bt0⟩
        have N2 : NET c h2 := ⟨s, n, en, cN_frm g2.1 qc1 (by decide) (by decide), mN_frm g2.1 qm1 (by decide) (by decide), qn⟩
        have P2 : PEEL h2 := PEEL_frm g2.1 (by decide) (by decide) P1
        have f2 : plf h h2 := plf_tr f1 (plf_m g2)
        obtain ⟨w1, w2, w3⟩ := g1 k hk
        rw [cl_n (show k < 1600 by omega) (by decide), w3, cl_n hb (by decide), w1, nI_remE (by omega) (by decide) (by decide), nI_divE (by omega) (by decide) (by decide)]
        refine ⟨v1600 (by omega), fun q1 => ⟨fun q2 => ⟨v1600 hb, mk_kI hw2 ⟨?_, N2, P2, f2⟩⟩, fun q2 => mk_kI hw2 ⟨?_, N2, P2, f2⟩⟩, fun q1 => mk_kI hw2 ⟨?_, N2, P2, f2⟩⟩
        · rw [hv, if_neg (fun q => q1 (q.trans nI_0)), if_neg q2]
        · rw [hv, if_neg (fun q => q1 (q.trans nI_0)), if_pos q2]
        · rw [hv, if_pos (q1.trans nI_0.symm)]
      rw [nI_remE (by omega) (by decide) (by decide), nI_divE (by omega) (by decide) (by decide)]
      refine ⟨fun q => M _ (by rw [if_pos q]), fun q => M _ (by rw [if_neg (by rw [q]; decide), if_pos q]), fun ⟨q1, q2⟩ => ⟨v1600 hb, M _ (by rw [if_neg q1, if_neg q2])⟩⟩
    · rw [Bool.and_eq_false_iff, decide_eq_false_iff_not, decide_eq_false_iff_not]; exact Or.inr (fun q => z (Int32.not_lt.mp q))
  · have hxb : (decide (¬ x < nI 0) && decide (¬ nI (ecn s.f) - nI 1 < x)) = false := by
      cases q : (decide (¬ x < nI 0) && decide (¬ nI (ecn s.f) - nI 1 < x)) with
      | false => rfl
      | true => exact absurd ((plB2_iff (by omega)).mp q) hx
    refine ⟨fun z => mk_kI hw1 (no (Or.inl hxb)), fun z1 => ⟨fun z => mk_kI hw1 (no (Or.inl hxb)), fun z2 => ?_⟩⟩
    refine absurd ?_ hx
    rw [Int32.lt_iff_toInt_lt] at z1
    rw [Int32.le_iff_toInt_le, nI_toInt (by omega)] at z2
    have z1 : ¬ x.toInt < 0 := z1
    exact ⟨x.toInt.toNat, by omega, zr_int (by omega)⟩
theorem p_edge (x y z : Int32) (hw : zWF h) (hN : NET c h) (hP : PEEL h) : zK (d + 10) m_X10_edge [.ref 1, .int x, .int y, .int z] h (kI fun a h1 => zK (d + 10) m_X11_edge_ [.ref 53, .int x, .int y, .int z] h1 (kI fun b h2 => a = b ∧ NET c h2 ∧ PEEL h2 ∧ plf h h2)) := by
  have hN1 := hN
  obtain ⟨s, n, en, qc, qm, qn⟩ := hN
  have hf : GF s.f := qn.1.1
  have e3 : h.L 3 = s.f := qc.1.1
  have e58 : h.L 58 = s.f := qm.1.1
  refine r_X10_edge_0 _ _ _ hw (use_pI (c_isTwo _ _) ?_)
  cases ht : twB x y with
  | false =>
    refine ⟨fun _ => mk_kI hw (r_X11_edge__0 _ _ _ hw (use_pI (m_areTwo _ _) ?_)), fun q => absurd bf0 q⟩
    rw [ht]
    exact ⟨fun _ => mk_kI hw ⟨rfl, hN1, hP, plf_rf⟩, fun q => absurd bf0 q⟩
  | true =>
    obtain ⟨u, v, hu, hv, huv, rfl, rfl⟩ := twB_iff.mp ht
    refine ⟨fun q => absurd q bt0, fun _ => ?_⟩
    have no : (decide (¬ z < nI 0) && decide (¬ nI 4 < z)) = false → zK (d + 10) m_X11_edge_ [.ref 53, .int (nI u), .int (nI v), .int z] h (kI fun b h2 => (-1 : Int32) = b ∧ NET c h2 ∧ PEEL h2 ∧ plf h h2) := by
      intro q
      refine r_X11_edge__0 _ _ _ hw (use_pI (m_areTwo _ _) ?_)
      rw [ht]
      refine ⟨fun q => absurd q bt0, fun _ => use_pI (m_isIn _ _ _) ?_⟩
      rw [q]
      exact ⟨fun q => absurd bf0 q, fun _ => mk_kI hw ⟨rfl, hN1, hP, plf_rf⟩⟩
    refine ⟨fun q => mk_kI hw (no ?_), fun z1 => ⟨fun z2 => use_pI (c_joins hw hu hv) ?_, fun q => mk_kI hw (no ?_)⟩⟩
    · rw [Bool.and_eq_false_iff, decide_eq_false_iff_not]; exact Or.inl (fun w => w q)
    · have hzb : (decide (¬ z < nI 0) && decide (¬ nI 4 < z)) = true := by
        rw [Bool.and_eq_true, decide_eq_true_iff, decide_eq_true_iff]
        exact ⟨z1, Int32.not_lt.mpr z2⟩
      rw [e3]
      cases hg : gb (s.f u) v with
      | false =>
        refine ⟨fun q => absurd bf0 q, fun _ => mk_kI hw (r_X11_edge__0 _ _ _ hw (use_pI (m_areTwo _ _) ?_))⟩
        rw [ht]
        refine ⟨fun q => absurd q bt0, fun _ => use_pI (m_isIn _ _ _) ?_⟩
        rw [hzb]
        refine ⟨fun _ => use_pI (m_isEdge hw hu hv) ?_, fun q => absurd q bt0⟩
        rw [e58, hg]
        exact ⟨fun q => absurd bf0 q, fun _ => mk_kI hw ⟨rfl, hN1, hP, plf_rf⟩⟩
      | true =>
        refine ⟨fun _ => ?_, fun q => absurd q bt0⟩
        -- the reference's switch
        have M : ∀ (g : AH) (a : Int32), zWF g → g.L 58 = s.f → ((z ≠ 0 → (z ≠ nI 3 → (z ≠ nI 4 → zK (d + 9) m_X11_peels [.ref 53] g (kV fun h10 => (z ≠ nI 1 → vp_in (nI (pr u v)) 1600 ∧ kI (fun b h2 => a = b ∧ NET c h2 ∧ PEEL h2 ∧ plf h h2) (some (.int (h10.I 63 (pr u v)))) h10) ∧ (z = nI 1 → vp_in (nI (pr u v)) 1600 ∧ kI (fun b h2 => a = b ∧ NET c h2 ∧ PEEL h2 ∧ plf h h2) (some (.int (h10.I 62 (pr u v)))) h10))) ∧ (z = nI 4 → zK (d + 9) m_X11_foursAt [.ref 53, .int (nI u), .int (nI v)] g (pI g fun x16 => kI (fun b h2 => a = b ∧ NET c h2 ∧ PEEL h2 ∧ plf h h2) (some (.int x16)) g))) ∧ (z = nI 3 → zK (d + 9) m_X11_ways [.ref 53, .int (nI u), .int (nI v)] g (pI g fun x17 => kI (fun b h2 => a = b ∧ NET c h2 ∧ PEEL h2 ∧ plf h h2) (some (.int x17)) g))) ∧ (z = 0 → zK (d + 9) m_X11_shared [.ref 53, .int (nI u), .int (nI v)] g (pI g fun x18 => kI (fun b h2 => a = b ∧ NET c h2 ∧ PEEL h2 ∧ plf h h2) (some (.int x18)) g))) → zK (d + 10) m_X11_edge_ [.ref 53, .int (nI u), .int (nI v), .int z] g (kI fun b h2 => a = b ∧ NET c h2 ∧ PEEL h2 ∧ plf h h2) := by
          intro g a hwg g58 K
          refine r_X11_edge__0 _ _ _ hwg (use_pI (m_areTwo _ _) ?_)
          rw [ht]
          refine ⟨fun q => absurd q bt0, fun _ => use_pI (m_isIn _ _ _) ?_⟩
          rw [hzb]
          refine ⟨fun _ => use_pI (m_isEdge hwg hu hv) ?_, fun q => absurd q bt0⟩
          rw [g58, hg]
          refine ⟨fun _ => ⟨fun k0 => ⟨fun k3 => ⟨fun k4 => ?_, fun k4 => ((K.1 k0).1 k3).2 k4⟩, fun k3 => (K.1 k0).2 k3⟩, fun k0 => K.2 k0⟩, fun q => absurd q bt0⟩
          refine use_kV (((K.1 k0).1 k3).1 k4) (fun h10 hw10 K10 => ⟨fun k1 => use_pI (m_edge hu hv) ?_, fun k1 => use_pI (m_edge hu hv) ?_⟩)
          · rw [cl_n (pr_lt hu hv) (by decide)]; exact K10.1 k1
          · rw [cl_n (pr_lt hu hv) (by decide)]; exact K10.2 k1
        have hp := pr_lt hu hv
        have hE : isE s.f (pr u v) = true := by rw [isE_pr hf.1 hu hv huv]; exact hg
        obtain ⟨k, hk, rfl⟩ : ∃ k, k ≤ 4 ∧ z = nI k := by
          rw [Int32.lt_iff_toInt_lt] at z1
          rw [Int32.le_iff_toInt_le] at z2
          have z1 : ¬ z.toInt < 0 := z1
          have z2 : z.toInt ≤ 4 := z2
          exact ⟨z.toInt.toNat, by omega, zr_int (by omega)⟩
        clear hzb no z1 z2
        match k, hk with
        | 0, _ =>
          (repeat' (refine And.intro ?_ ?_)) <;> (try exact fun q => absurd q (by decide))
          refine fun _ => use_pI (c_shared (sh_3 hw) hu hv) (mk_kI hw (M h _ hw e58 ?_))
          (repeat' (refine And.intro ?_ ?_)) <;> (try exact fun q => absurd q (by decide))
          exact fun _ => use_pI (m_shared hw hu hv) (mk_kI hw ⟨by rw [e3, e58], hN1, hP, plf_rf⟩)
        | 1, _ =>
          (repeat' (refine And.intro ?_ ?_)) <;> (try exact fun q => absurd q (by decide))
          refine fun _ => use_kV (c_follow (d := d + 4) hf hw e3 hP) (fun h1 hw1 ⟨a1, a2⟩ => use_pI (c_pairOf hu hv) ⟨v1600 hp, mk_kI hw1 ?_⟩)
          rw [cl_n hp (by decide), PF_tr hf a1.2.2 hp hE]
          have qc1 := cN_frm a2 qc (by decide) (by decide)
          have qm1 := mN_frm a2 qm (by decide) (by decide)
          have e5 : h1.I 54 5 = nI (ecn s.f) := by rw [qm1.1.2.2.1, qn.1.2.1]; rfl
          refine M h1 _ hw1 qm1.1.1 ⟨fun _ => ⟨fun _ => ⟨fun _ => use_kV (m_peels (d := d + 4) hf hw1 qm1.1.1 e5) (fun h2 hw2 ⟨g1, g2⟩ => ⟨fun w => absurd rfl w, fun _ => ⟨v1600 hp, mk_kI hw2 ⟨?_, ⟨s, n, en, cN_frm g2.1 qc1 (by decide) (by decide), mN_frm g2.1 qm1 (by decide) (by decide), qn⟩, PEEL_frm g2.1 (by decide) (by decide) ⟨s.f, hf, a1⟩, plf_tr (plf_c a2) (plf_m g2)⟩⟩⟩), fun w => absurd w (by decide)⟩, fun w => absurd w (by decide)⟩, fun w => absurd w (by decide)⟩
          rw [PF_tr hf g1 hp hE]
        | 2, _ =>
          (repeat' (refine And.intro ?_ ?_)) <;> (try exact fun q => absurd q (by decide))
          refine fun _ => use_kV (c_follow (d := d + 4) hf hw e3 hP) (fun h1 hw1 ⟨a1, a2⟩ => use_pI (c_pairOf hu hv) ⟨v1600 hp, mk_kI hw1 ?_⟩)
          rw [cl_n hp (by decide)]
          have qc1 := cN_frm a2 qc (by decide) (by decide)
          have qm1 := mN_frm a2 qm (by decide) (by decide)
          have e5 : h1.I 54 5 = nI (ecn s.f) := by rw [qm1.1.2.2.1, qn.1.2.1]; rfl
          refine M h1 _ hw1 qm1.1.1 ⟨fun _ => ⟨fun _ => ⟨fun _ => use_kV (m_peels (d := d + 4) hf hw1 qm1.1.1 e5) (fun h2 hw2 ⟨g1, g2⟩ => ⟨fun _ => ⟨v1600 hp, mk_kI hw2 ⟨?_, ⟨s, n, en, cN_frm g2.1 qc1 (by decide) (by decide), mN_frm g2.1 qm1 (by decide) (by decide), qn⟩, PEEL_frm g2.1 (by decide) (by decide) ⟨s.f, hf, a1⟩, plf_tr (plf_c a2) (plf_m g2)⟩⟩, fun w => absurd w (by decide)⟩), fun w => absurd w (by decide)⟩, fun w => absurd w (by decide)⟩, fun w => absurd w (by decide)⟩
          exact PF_same hf a1.2.2 g1 hp hE
        | 3, _ =>
          (repeat' (refine And.intro ?_ ?_)) <;> (try exact fun q => absurd q (by decide))
          refine fun _ => use_pI (c_waysByThree (sh_3 hw) hu hv) (mk_kI hw (M h _ hw e58 ?_))
          (repeat' (refine And.intro ?_ ?_)) <;> (try exact fun q => absurd q (by decide))
          exact fun _ => ⟨fun w => absurd rfl w, fun _ => use_pI (m_ways hw hu hv) (mk_kI hw ⟨by rw [e3, e58], hN1, hP, plf_rf⟩)⟩
        | 4, _ =>
          (repeat' (refine And.intro ?_ ?_)) <;> (try exact fun q => absurd q (by decide))
          refine fun _ => use_pI (c_foursOn (sh_3 hw) hu hv) (mk_kI hw (M h _ hw e58 ?_))
          (repeat' (refine And.intro ?_ ?_)) <;> (try exact fun q => absurd q (by decide))
          exact fun _ => ⟨fun _ => ⟨fun w => absurd rfl w, fun _ => use_pI (m_foursAt hw hu hv) (mk_kI hw ⟨by rw [e3, e58], hN1, hP, plf_rf⟩)⟩, fun w => absurd w (by decide)⟩
    · rw [Bool.and_eq_false_iff, decide_eq_false_iff_not, decide_eq_false_iff_not]; exact Or.inr (fun w => q (Int32.not_lt.mp w))
end TRUSS
