section HOODP
variable {d : Nat} {h : AH} {c : Nat}
theorem plf_h {h h1 : AH} (a : hbf h h1) : plf h h1 := ⟨frm_up a.1 (by decide) (by decide), a.2⟩
theorem plf_w {h h1 : AH} (a : frm [19, 20] [] h h1) : plf h h1 := ⟨frm_up a (by decide) (by decide), fun j _ => by rw [frm_I a (by decide)]⟩
theorem p_hoods (x : Int32) (hw : zWF h) (hN : NET c h) (hP : PEEL h) : zK (d + 10) m_X10_hoods [.ref 1, .int x] h (kI fun a h1 => zK (d + 10) m_X11_hoods [.ref 53, .int x] h1 (kI fun b h2 => a = b ∧ NET c h2 ∧ PEEL h2 ∧ plf h h2)) := by
  obtain ⟨s, n, en, qc, qm, qn⟩ := hN
  have hf : GF s.f := qn.1.1
  refine r_X10_hoods_0 _ hw (use_kV (c_follow (d := d + 4) hf hw qc.1.1 hP) (fun h0 hw0 ⟨a1, a2⟩ => use_kI (c_hoodsFrom (d := d + 6) hf hw0 a1) (fun y h1 hw1 ⟨d1, d2⟩ => mk_kI hw1 ?_)))
  subst d1
  have qc1 := cN_frm d2 (cN_frm a2 qc (by decide) (by decide)) (by decide) (by decide)
  have qm1 := mN_frm d2 (mN_frm a2 qm (by decide) (by decide)) (by decide) (by decide)
  have P1 : PEEL h1 := PEEL_frm d2 (by decide) (by decide) ⟨s.f, hf, a1⟩
  have f1 : plf h h1 := plf_tr (plf_c a2) (plf_w d2)
  have e5 : h1.I 54 5 = nI (ecn s.f) := by rw [qm1.1.2.2.1, qn.1.2.1]; rfl
  refine r_X11_hoods_0 _ hw1 (use_kV (m_hoodsBy (d := d + 3) hf hw1 qm1.1.1 e5) (fun h2 hw2 ⟨M, b1, b2, b3, b4, b5⟩ => ?_))
  have qc2 := cN_frm b5.1 qc1 (by decide) (by decide)
  have qm2 := mN_frm b5.1 qm1 (by decide) (by decide)
  have P2 : PEEL h2 := PEEL_frm b5.1 (by decide) (by decide) P1
  have f2 : plf h h2 := plf_tr f1 (plf_h b5)
  have key : ∀ e, e ≤ 1600 → zQ none m_X11_hoods (d + 9 + 1) 9 [(0, .ref 53), (1, .int x), (2, .int (nI (fb_ct (fun e => inT s.f x e && rtB (HA s.f x) e) e))), (3, .int (nI e))] [] h2 (kI fun b h2 => nI (hooN s.f x) = b ∧ NET c h2 ∧ PEEL h2 ∧ plf h h2) := by
    refine nat_down ?_ (fun e he ih => ?_)
    · exact r_X11_hoods_9 _ _ _ hw2 ⟨fun _ => mk_kI hw2 ⟨rfl, ⟨s, n, en, qc2, qm2, qn⟩, P2, f2⟩, fun z => absurd ((nI_leE (by decide) (by decide)).mpr (Nat.le_refl _)) z⟩
    · refine r_X11_hoods_9 _ _ _ hw2 ⟨fun z => absurd ((nI_leE (by decide) (by omega)).mp z) (by omega), fun _ => use_pI (m_isInTruss (d := d + 6) he hw2 qm2.1.1 b4) ?_⟩
      rw [fb_ct_succ] at ih
      rw [nI_add, nI_add, nI_add]
      have hr := mi_rt (HA_lt (f := s.f) (K := x)) b2 b3 he
      have me := (b2 e he).1
      refine ⟨fun z => ?_, fun z => ⟨v1600 he, ?_⟩⟩
      · rw [bFb z, Bool.false_and, if_neg (by decide)] at ih
        exact ih
      · rw [bTb z, Bool.true_and] at ih
        rw [cl_n he (by decide), b1 e he, ne_eq, nI_eqE (by omega) (by omega)]
        refine ⟨fun y => ?_, fun y => ?_⟩
        · have : rtB (HA s.f x) e = false := by
            cases q : rtB (HA s.f x) e with
            | false => rfl
            | true => exact absurd (hr.mpr (rtB_iff.mp q)) y
          rw [this, if_neg (by decide)] at ih
          exact ih
        · rw [rtB_iff.mpr (hr.mp y), if_pos rfl] at ih
          exact ih
  exact key 0 (Nat.zero_le _)
theorem p_hood (x y z : Int32) (hw : zWF h) (hN : NET c h) (hP : PEEL h) : zK (d + 10) m_X10_hood [.ref 1, .int x, .int y, .int z] h (kI fun a h1 => zK (d + 10) m_X11_hood [.ref 53, .int x, .int y, .int z] h1 (kI fun b h2 => a = b ∧ NET c h2 ∧ PEEL h2 ∧ plf h h2)) := by
  have hN1 := hN
  obtain ⟨s, n, en, qc, qm, qn⟩ := hN
  have hf : GF s.f := qn.1.1
  have e3 : h.L 3 = s.f := qc.1.1
  have e58 : h.L 58 = s.f := qm.1.1
  refine r_X10_hood_0 _ _ _ hw (use_pI (c_isTwo _ _) ?_)
  cases ht : twB x y with
  | false =>
    refine ⟨fun q => absurd bf0 q, fun _ => mk_kI hw (r_X11_hood_0 _ _ _ hw (use_pI (m_areTwo _ _) ?_))⟩
    rw [ht]
    exact ⟨fun q => absurd bf0 q, fun _ => mk_kI hw ⟨rfl, hN1, hP, plf_rf⟩⟩
  | true =>
    obtain ⟨u, v, hu, hv, huv, rfl, rfl⟩ := twB_iff.mp ht
    refine ⟨fun _ => use_pI (c_joins hw hu hv) ?_, fun q => absurd q bt0⟩
    rw [e3]
    cases hg : gb (s.f u) v with
    | false =>
      refine ⟨fun q => absurd bf0 q, fun _ => mk_kI hw (r_X11_hood_0 _ _ _ hw (use_pI (m_areTwo _ _) ?_))⟩
      rw [ht]
      refine ⟨fun _ => use_pI (m_isEdge hw hu hv) ?_, fun q => absurd q bt0⟩
      rw [e58, hg]
      exact ⟨fun q => absurd bf0 q, fun _ => mk_kI hw ⟨rfl, hN1, hP, plf_rf⟩⟩
    | true =>
      have hp := pr_lt hu hv
      have hE : isE s.f (pr u v) = true := by rw [isE_pr hf.1 hu hv huv]; exact hg
      refine ⟨fun _ => use_kV (c_follow (d := d + 4) hf hw e3 hP) (fun h0 hw0 ⟨a1, a2⟩ => use_pI (c_pairOf hu hv) (use_kI (c_hoodOf (d := d + 6) hf hw0 a1 hp hE) (fun w h1 hw1 ⟨d1, d2⟩ => mk_kI hw1 ?_))), fun q => absurd q bt0⟩
      subst d1
      have qc1 := cN_frm d2 (cN_frm a2 qc (by decide) (by decide)) (by decide) (by decide)
      have qm1 := mN_frm d2 (mN_frm a2 qm (by decide) (by decide)) (by decide) (by decide)
      have P1 : PEEL h1 := PEEL_frm d2 (by decide) (by decide) ⟨s.f, hf, a1⟩
      have f1 : plf h h1 := plf_tr (plf_c a2) (plf_w d2)
      have e5 : h1.I 54 5 = nI (ecn s.f) := by rw [qm1.1.2.2.1, qn.1.2.1]; rfl
      refine r_X11_hood_0 _ _ _ hw1 (use_pI (m_areTwo _ _) ?_)
      rw [ht]
      refine ⟨fun _ => use_pI (m_isEdge hw1 hu hv) ?_, fun q => absurd q bt0⟩
      rw [qm1.1.1, hg]
      refine ⟨fun _ => use_kV (m_hoodsBy (d := d + 3) hf hw1 qm1.1.1 e5) (fun h2 hw2 ⟨M, b1, b2, b3, b4, b5⟩ => use_pI (m_edge hu hv) (use_pI (m_isInTruss (d := d + 6) hp hw2 (by rw [frm_L b5.1 (by decide)]; exact qm1.1.1) b4) ?_)), fun q => absurd q bt0⟩
      have qc2 := cN_frm b5.1 qc1 (by decide) (by decide)
      have qm2 := mN_frm b5.1 qm1 (by decide) (by decide)
      have P2 : PEEL h2 := PEEL_frm b5.1 (by decide) (by decide) P1
      have f2 : plf h h2 := plf_tr f1 (plf_h b5)
      have fin : ∀ b : Int32, nI (if inT s.f z (pr u v) = true then fb_ct (cnB (HA s.f z) (pr u v)) 1600 else 0) = b → kI (fun b h2 => nI (if inT s.f z (pr u v) = true then fb_ct (cnB (HA s.f z) (pr u v)) 1600 else 0) = b ∧ NET c h2 ∧ PEEL h2 ∧ plf h h2) (some (.int b)) h2 := fun b hb => mk_kI hw2 ⟨hb, ⟨s, n, en, qc2, qm2, qn⟩, P2, f2⟩
      refine ⟨fun q => ?_, fun q => fin _ ?_⟩
      · have hT : inT s.f z (pr u v) = true := bTb q
        rw [if_pos hT] at fin ⊢
        have key : ∀ e, e ≤ 1600 → zQ none m_X11_hood (d + 9 + 1) 48 [(0, .ref 53), (1, .int (nI u)), (2, .int (nI v)), (3, .int z), (4, .int (nI (fb_ct (cnB (HA s.f z) (pr u v)) e))), (5, .int (nI e))] [] h2 (kI (fun b h2 => nI (fb_ct (cnB (HA s.f z) (pr u v)) 1600) = b ∧ NET c h2 ∧ PEEL h2 ∧ plf h h2)) := by
          refine nat_down ?_ (fun e he ih => ?_)
          · exact r_X11_hood_48 _ _ _ _ _ hw2 ⟨fun _ => fin _ rfl, fun w => absurd ((nI_leE (by decide) (by decide)).mpr (Nat.le_refl _)) w⟩
          · refine r_X11_hood_48 _ _ _ _ _ hw2 ⟨fun w => absurd ((nI_leE (by decide) (by omega)).mp w) (by omega), fun _ => use_pI (m_isInTruss (d := d + 6) he hw2 qm2.1.1 b4) ?_⟩
            rw [fb_ct_succ] at ih
            rw [nI_add, nI_add, nI_add]
            have me := (b2 e he).1
            have mp := (b2 _ hp).1
            have hq := mi_eq (HA_sy (f := s.f) (K := z)) b2 b3 hp he
            refine ⟨fun w => ?_, fun w => ⟨v1600 he, use_pI (m_edge hu hv) ⟨v1600 hp, ?_⟩⟩⟩
            · have : cnB (HA s.f z) (pr u v) e = false := by
                cases k : cnB (HA s.f z) (pr u v) e with
                | false => rfl
                | true =>
                  have := HA_cT hT (cnB_iff.mp k)
                  rw [bFb w] at this; cases this
              rw [this, if_neg (by decide)] at ih
              exact ih
            · rw [cl_n he (by decide), cl_n hp (by decide), b1 e he, b1 _ hp, ne_eq, nI_eqE (by omega) (by omega)]
              refine ⟨fun k => ?_, fun k => ?_⟩
              · have : cnB (HA s.f z) (pr u v) e = false := by
                  cases k2 : cnB (HA s.f z) (pr u v) e with
                  | false => rfl
                  | true => exact absurd (hq.mpr (cnB_iff.mp k2)).symm k
                rw [this, if_neg (by decide)] at ih
                exact ih
              · rw [cnB_iff.mpr (hq.mp k.symm), if_pos rfl] at ih
                exact ih
        exact key 0 (Nat.zero_le _)
      · have hT : inT s.f z (pr u v) = false := bFb q
        rw [if_neg (by rw [hT]; decide)]
end HOODP
