section PPICK2
variable {d : Nat} {h : AH} {c : Nat}
theorem p_pick (hw : zWF h) (hN : NET c h) (hT : TAPE h) (hp : h.L 2 10 = h.L 53 7) : zK (d + 21) m_X10_pick [.ref 1] h (kI fun a h1 => zK (d + 21) m_X11_pick [.ref 53] h1 (kI fun b h2 => a = b ∧ NET c h2 ∧ TAPE h2 ∧ h2.L 2 10 = h2.L 53 7 ∧ pif h h2)) := by
  obtain ⟨s, n, en, qc, qm, qn⟩ := hN
  obtain ⟨len, T, t1, t2, t3, hT, l1, l2⟩ := tape_T hT
  have qc : cZ h (s, n, en) := qc
  have qm : mZ h (s, n, en) := qm
  have qn : nu c (s, n, en) := qn
  have e3 : h.L 3 = s.f := qc.1.1
  have e5 : h.L 2 5 = s.hv := qc.1.2.2.2.2.1
  have hf : GF s.f := qn.1.1
  have gE : gg len (sSeq len T (sSeq len T (sSi s.f s.hv len T 4) 38 iand) 124 ior) := gg_seq (by decide) (gg_seq (by decide) (gg_si t3 4))
  have HM : mR s.f s.hv len T (d + 20) m_X11_either (nI 0) (sSeq len T (sSeq len T (sSi s.f s.hv len T 4) 38 iand) 124 ior) := m_either (d := d + 17) (gg_seq (by decide) (gg_si t3 4)) (m_both (d := d + 16) (gg_si t3 4) (m_factor hf hT t3 4 d (by decide)))
  refine r_X10_pick_0 hw (use_kL (c_readPick (d := d) hT hw e3 e5 t1 t3 l1) (fun x h1 hw1 ⟨a1, a2, a3⟩ h2 q2 => ?_))
  have hq := gE 0 (Nat.zero_le _)
  have HM2 := fun k hwk e1 e2 ck => HM k 0 hwk e1 e2 ck
  generalize sSeq len T (sSeq len T (sSi s.f s.hv len T 4) 38 iand) 124 ior (0, none) = r at a1 a2 hq HM2
  subst a1
  have hw2 := wf_I q2 hw1
  have f12 : frm [23] [] h1 h2 := frm_wI q2 (by decide)
  have f2 : pif h h2 := pif_tr (pif_f a3 (by decide) (by decide)) (pif_f f12 (by decide) (by decide))
  have qc2 : cZ h2 (s, n, en) := cZ_frm f12 (cZ_frm a3 qc (by decide) (by decide)) (by decide) (by decide)
  have qm2 : mZ h2 (s, n, en) := mZ_frm f12 (mZ_frm a3 qm (by decide) (by decide)) (by decide) (by decide)
  have z2 : h2.I 23 1 = nI 0 := sI_e q2
  have m2 : h2.I 53 19 = nI len := by rw [sI_r q2 (by decide), frm_I a3 (by decide)]; exact t2
  have r2 : ∀ i, i < len → h2.I 66 i = nI (T i) := fun i hi => by rw [sI_r q2 (by decide), frm_I a3 (by decide)]; exact l2 i hi
  have e23 : h2.I 23 3 = fi (pcl len r).2 := by rw [q2]; exact a2.2.2.2.2.2.1
  have hfi : ∀ f, (pcl len r).2 = some f → f ≤ 160 := a2.2.2.2.2.2.2
  have p2 : h2.L 2 10 = h.L 2 10 := by rw [frm_L f12 List.not_mem_nil, frm_L a3 (by decide)]
  -- the reference, from any heap that the class leaves
  have M : ∀ (g : AH) (a : Int32), zWF g → pif h g → cZ g (s, n, en) → mZ g (s, n, en) → g.I 23 1 = nI 0 → g.I 53 19 = nI len → (∀ i, i < len → g.I 66 i = nI (T i)) → (∀ f, (pcl len r).2 = some f → a = -100 - nI f ∧ g.L 2 10 = g.L 53 7) → ((pcl len r).2 = none → g.L 2 10 = r.2 ∧ a = nI (pc r.2)) → zK (d + 21) m_X11_pick [.ref 53] g (kI fun b h2 => a = b ∧ NET c h2 ∧ TAPE h2 ∧ h2.L 2 10 = h2.L 53 7 ∧ pif h h2) := by
    intro g a hwg fg qcg qmg g1 g2 g3 K1 K2
    refine r_X11_pick_0 hwg (r_X11_begins_0 hwg (fun k1 p1 k2 p2 => mk_kV (wf_I p2 (wf_I p1 hwg)) ?_))
    have hwk := wf_I p2 (wf_I p1 hwg)
    have fk : pif g k2 := pif_tr (pif_s p1 (by decide)) (pif_s p2 (by decide))
    have ck : MT k2 len T 0 none := ⟨by rw [p2, p1]; exact g2, t3, fun i hi => by rw [p2, p1]; exact g3 i hi, by rw [p2, p1]; rfl, Nat.zero_le _, by rw [p2]; rfl, (fun f q => by cases q)⟩
    have f53a : frm [53] [] g k2 := frm_tr (frm_wI p1 (by decide)) (frm_wI p2 (by decide))
    have qck : cZ k2 (s, n, en) := cZ_frm f53a qcg (by decide) (by decide)
    have qmk : mZ k2 (s, n, en) := mZ_frm f53a qmg (by decide) (by decide)
    have zk : k2.I 23 1 = nI 0 := by rw [sI_r p2 (by decide), sI_r p1 (by decide)]; exact g1
    have lk : k2.L = g.L := by rw [p2, p1]; rfl
    refine use_kL (HM2 k2 hwk qmk.1.1 qmk.1.2.2.2.2.1 ck) (fun x k3 hw3 ⟨v1, v2, v3⟩ => ?_)
    have f3 : pif h k3 := pif_tr fg (pif_tr fk (pif_p v3))
    have qc3 : cZ k3 (s, n, en) := cZ_frm v3.1 qck (by decide) (by decide)
    have qm3 : mZ k3 (s, n, en) := mZ_frm v3.1 qmk (by decide) (by decide)
    have z3 : k3.I 23 1 = nI 0 := by rw [frm_I v3.1 (by decide)]; exact zk
    have l3 : ∀ k, k3.L k = g.L k := fun k => by rw [pkf_L v3, lk]
    -- what is left when a fault stands
    have bad : ∀ f (k4 k5 : AH), (pcl len r).2 = some f → zWF k4 → k4.I 53 21 = nI f → f ≤ 160 → cZ k4 (s, n, en) → mZ k4 (s, n, en) → k4.I 23 1 = nI 0 → pif h k4 → (∀ k, k4.L k = g.L k) → k5 = k4.sI 53 19 (nI 0) → (k5.I 53 21 < 0 → False) ∧ kI (fun b h2 => a = b ∧ NET c h2 ∧ TAPE h2 ∧ h2.L 2 10 = h2.L 53 7 ∧ pif h h2) (some (.int (-100 - (k5.I 53 21)))) k5 := by
      intro f k4 k5 ef hw4 e21 hf2 qc4 qm4 z4 f4 l4 q5
      have e21' : k5.I 53 21 = nI f := by rw [q5]; exact e21
      obtain ⟨ea, ez⟩ := K1 f ef
      rw [e21']
      refine ⟨fun y => absurd y (nI_lt0 (by omega)), mk_kI (wf_I q5 hw4) ⟨ea, ⟨s, n, en, ?_, ?_, qn⟩, TAPE_0 (by rw [sI_r q5 (by decide)]; exact z4) (sI_e q5), ?_, pif_tr f4 (pif_s q5 (by decide))⟩⟩
      · exact cZ_frm (frm_wI (SI := [53]) (SL := []) q5 (by decide)) qc4 (by decide) (by decide)
      · exact mZ_frm (frm_wI (SI := [53]) (SL := []) q5 (by decide)) qm4 (by decide) (by decide)
      · have : k5.L = k4.L := by rw [q5]; rfl
        rw [this, l4, l4]; exact ez
    rcases gd_e hq.1 with q | ⟨f0, q⟩
    · have q2 : r.1.2 = none := by rw [q]
      have cm := v2.1 q2
      have hlen := cm.2.2.2.2.1
      rw [cm.2.2.2.2.2.1, cm.1, cm.2.2.2.1, nI_leE (by omega) (by omega)]
      refine ⟨fun y => absurd y (by decide), fun _ => ⟨fun y k5 q5 => ?_, fun y => ?_⟩⟩
      · have ep : pcl len r = r.1 := if_neg (by omega)
        obtain ⟨ka, kb⟩ := K2 (by rw [ep]; exact q2)
        have hw5 := wf_I q5 hw3
        have e21 : k5.I 53 21 = -1 := by rw [q5]; exact cm.2.2.2.2.2.1
        rw [e21]
        refine ⟨fun _ k7 q7 => use_pI (c_bits _) ?_, fun w => absurd (by decide) w⟩
        refine mk_kI (wf_L q7 hw5) ⟨by rw [kb, v1 q2], ⟨s, n, en, ?_, ?_, qn⟩, TAPE_0 ?_ ?_, ?_, pif_tr f3 (pif_tr (pif_s q5 (by decide)) (pif_L q7))⟩
        · exact cZ_frm (frm_wL (SI := [53]) (SL := [53]) q7 (by decide)) (cZ_frm (frm_wI (SI := [53]) (SL := []) q5 (by decide)) qc3 (by decide) (by decide)) (by decide) (by decide)
        · exact mZ_L (mZ_frm (frm_wI (SI := [53]) (SL := []) q5 (by decide)) qm3 (by decide) (by decide)) q7
        · rw [sL_I q7, sI_r q5 (by decide)]; exact z3
        · rw [sL_I q7]; exact sI_e q5
        · rw [sL_e q7, sL_r q7 (by decide), v1 q2, q5]
          show k3.L 2 10 = _
          rw [l3]; exact ka
      · have ep : pcl len r = (len, some r.1.1) := by
          unfold pcl
          rw [if_pos (by omega), q]
          rfl
        refine use_kI (m_fails (by omega) hw3 cm) (fun x15 k4 hw4 ⟨b1, b2, b3, b4⟩ k5 q5 => ?_)
        have b3' : pkf k3 k4 := ⟨frm_up b3 (by decide) (by decide), fun j _ j2 _ => b4 j j2⟩
        have := bad r.1.1 k4 k5 (by rw [ep]) hw4 b2.2.2.2.2.2.1 (by omega) (cZ_frm b3 qc3 (by decide) (by decide)) (mZ_frm b3 qm3 (by decide) (by decide)) (by rw [frm_I b3 (by decide)]; exact z3) (pif_tr f3 (pif_p b3')) (fun k => by rw [pkf_L b3', l3]) q5
        exact ⟨fun y => absurd (this.1 y) id, fun _ => this.2⟩
    · have q2 : r.1.2 = some f0 := by rw [q]
      obtain ⟨p', cm⟩ := v2.2 f0 q2
      have hf0 := cm.2.2.2.2.2.2 f0 rfl
      have ep : pcl len r = (len, some f0) := by
        unfold pcl
        rw [q, if_neg (Nat.lt_irrefl _)]
      rw [cm.2.2.2.2.2.1]
      refine ⟨fun _ k5 q5 => ?_, fun y => absurd (fi_n hf0).2 y⟩
      have := bad f0 k3 k5 (by rw [ep]) hw3 cm.2.2.2.2.2.1 hf0 qc3 qm3 z3 f3 l3 q5
      exact ⟨fun y => absurd (this.1 y) id, fun _ => this.2⟩
  refine r_X9_hasFault_0 hw2 ?_
  rw [e23]
  cases ef : (pcl len r).2 with
  | some f =>
    refine ⟨fun y => absurd y (fi_n (hfi f ef)).1, fun _ => ⟨nI 1, rfl, rfl, fun y => absurd y i1_ne0, fun _ => mk_kI hw2 (M h2 _ hw2 f2 qc2 qm2 z2 m2 r2 (fun f' q => ?_) (fun q => ?_))⟩⟩
    · rw [ef] at q
      cases q
      refine ⟨rfl, ?_⟩
      rw [p2, hp, frm_L f12 List.not_mem_nil, frm_L a3 (show 53 ∉ [31] by decide)]
    · rw [ef] at q; cases q
  | none =>
    refine ⟨fun _ => ⟨nI 0, rfl, rfl, fun _ h6 q6 => use_pI (c_bitCount _) (mk_kI (wf_L q6 hw2) ?_), fun y => absurd nI_0 y⟩, fun y => absurd rfl y⟩
    have f6 : pif h2 h6 := pif_f (frm_wL (SI := []) (SL := [2]) q6 (by decide)) (by decide) (by decide)
    refine M h6 _ (wf_L q6 hw2) (pif_tr f2 f6) (cZ_L qc2 q6) (mZ_frm (frm_wL (SI := []) (SL := [2]) q6 (by decide)) qm2 (by decide) (by decide)) (by rw [sL_I q6]; exact z2) (by rw [sL_I q6]; exact m2) (fun i hi => by rw [sL_I q6]; exact r2 i hi) (fun f q => ?_) (fun _ => ⟨sL_e q6, rfl⟩)
    rw [ef] at q; cases q
end PPICK2
