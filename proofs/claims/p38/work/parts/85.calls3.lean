/-! calls that look: trusses, hoods, what breaks, the paper -/
section CALLS3
variable {d : Nat} {h : AH} {s : NS} {n c : Nat} {en : Nat → Ent}
theorem CS_GF (q : CS c s h) : GF s.f := by
  obtain ⟨⟨n, en, qc, qn⟩, -, -⟩ := q
  exact qn.1.1
theorem CS_E (q : CS c s h) : s.E = ecn s.f := by
  obtain ⟨⟨n, en, qc, qn⟩, -, -⟩ := q
  exact qn.1.2.1
/-- the class follows; the rest goes on with its rows -/
theorem q_follow {P : AH → Prop} (hw : zWF h) (q : CS c s h) (k : ∀ h', zWF h' → PLF s.f h' → CS c s h' → lfr h h' → P h') : zK (d + 15) m_X6_follow [.ref 12, .ref 3] h (kV P) := by
  have q0 := q
  obtain ⟨⟨n, en, qc, qn⟩, qP, t, qT⟩ := q
  refine use_kV (c_follow (d := d + 10) qn.1.1 hw qc.1.1 qP) (fun h1 hw1 ⟨a1, a2⟩ => k h1 hw1 a1 ⟨⟨n, en, cN_frm2 a2 qc (by decide) (by decide), qn⟩, ⟨s.f, qn.1.1, a1⟩, t, CP_frm a2 (by decide) qT⟩ (lfr_f a2 (by decide) (by decide) (by decide)))
theorem q_edge1 {u v : Nat} (hw : zWF h) (q : CS c s h) (hu : u < 40) (hv : v < 40) (huv : u ≠ v) (hg : gb (s.f u) v = true) : zK (d + 16) m_X10_edge [.ref 1, .int (nI u), .int (nI v), .int (nI 1)] h (kI fun x h' => x = nI (ptr s.f (pr u v)) ∧ CS c s h' ∧ lfr h h') := by
  have hp := pr_lt hu hv
  have hE : isE s.f (pr u v) = true := by rw [isE_pr (CS_GF q).1 hu hv huv]; exact hg
  have e3 : h.L 3 = s.f := by obtain ⟨⟨n, en, qc, qn⟩, -, -⟩ := q; exact qc.1.1
  refine r_X10_edge_0 _ _ _ hw (use_pI (c_isTwo _ _) ?_)
  rw [twT hu hv huv]
  refine ⟨fun q => absurd q bt0, fun _ => ⟨fun q => absurd q (by decide), fun _ => ⟨fun _ => use_pI (c_joins hw hu hv) ?_, fun q => absurd (by decide) q⟩⟩⟩
  rw [e3, hg]
  refine ⟨fun _ => ?_, fun q => absurd q bt0⟩
  (repeat' (refine And.intro ?_ ?_)) <;> (try exact fun q => absurd q (by decide))
  refine fun _ => q_follow hw q (fun h1 hw1 a1 a2 a3 => use_pI (c_pairOf hu hv) ⟨v1600 hp, mk_kI hw1 ⟨?_, a2, a3⟩⟩)
  rw [cl_n hp (by decide), PF_tr (CS_GF q) a1.2.2 hp hE]
theorem q_edge2 {u v : Nat} (hw : zWF h) (q : CS c s h) (hu : u < 40) (hv : v < 40) (huv : u ≠ v) (hg : gb (s.f u) v = true) : zK (d + 16) m_X10_edge [.ref 1, .int (nI u), .int (nI v), .int (nI 2)] h (kI fun x h' => (∃ t, t < ecn s.f ∧ x = nI t) ∧ CS c s h' ∧ lfr h h') := by
  have hp := pr_lt hu hv
  have hE : isE s.f (pr u v) = true := by rw [isE_pr (CS_GF q).1 hu hv huv]; exact hg
  have e3 : h.L 3 = s.f := by obtain ⟨⟨n, en, qc, qn⟩, -, -⟩ := q; exact qc.1.1
  refine r_X10_edge_0 _ _ _ hw (use_pI (c_isTwo _ _) ?_)
  rw [twT hu hv huv]
  refine ⟨fun q => absurd q bt0, fun _ => ⟨fun q => absurd q (by decide), fun _ => ⟨fun _ => use_pI (c_joins hw hu hv) ?_, fun q => absurd (by decide) q⟩⟩⟩
  rw [e3, hg]
  refine ⟨fun _ => ?_, fun q => absurd q bt0⟩
  (repeat' (refine And.intro ?_ ?_)) <;> (try exact fun q => absurd q (by decide))
  refine fun _ => q_follow hw q (fun h1 hw1 a1 a2 a3 => use_pI (c_pairOf hu hv) ⟨v1600 hp, mk_kI hw1 ⟨?_, a2, a3⟩⟩)
  obtain ⟨t, ht, e⟩ := pl_all (CS_GF q) hp hE
  refine ⟨t, ht, ?_⟩
  rw [cl_n hp (by decide), e, (a1.2.2 t ht).2.1]
theorem q_truss (K : Int32) (hw : zWF h) (q : CS c s h) : zK (d + 16) m_X10_truss [.ref 1, .int K] h (kI fun x h' => x = nI (fb_ct (inT s.f K) 1600) ∧ CS c s h' ∧ lfr h h') :=
  r_X10_truss_0 _ hw (q_follow hw q (fun h1 hw1 a1 a2 a3 => use_pI (c_edgesFrom (CS_GF q) K hw1 a1) (mk_kI hw1 ⟨rfl, a2, a3⟩)))
theorem q_hood {u v : Nat} (K : Int32) (hw : zWF h) (q : CS c s h) (hu : u < 40) (hv : v < 40) (huv : u ≠ v) (hg : gb (s.f u) v = true) : zK (d + 16) m_X10_hood [.ref 1, .int (nI u), .int (nI v), .int K] h (kI fun x h' => x = nI (if inT s.f K (pr u v) = true then fb_ct (cnB (HA s.f K) (pr u v)) 1600 else 0) ∧ CS c s h' ∧ lfr h h') := by
  have hp := pr_lt hu hv
  have hE : isE s.f (pr u v) = true := by rw [isE_pr (CS_GF q).1 hu hv huv]; exact hg
  have e3 : h.L 3 = s.f := by obtain ⟨⟨n, en, qc, qn⟩, -, -⟩ := q; exact qc.1.1
  refine r_X10_hood_0 _ _ _ hw (use_pI (c_isTwo _ _) ?_)
  rw [twT hu hv huv]
  refine ⟨fun _ => use_pI (c_joins hw hu hv) ?_, fun q => absurd q bt0⟩
  rw [e3, hg]
  refine ⟨fun _ => q_follow hw q (fun h1 hw1 a1 a2 a3 => use_pI (c_pairOf hu hv) (use_kI (c_hoodOf (CS_GF q) hw1 a1 hp hE) (fun x h2 hw2 ⟨b1, b2⟩ => mk_kI hw2 ⟨b1, CS_frm b2 (by decide) (by decide) a2, lfr_tr a3 (lfr_f b2 (by decide) (by decide) (by decide))⟩))), fun q => absurd q bt0⟩
theorem q_hoods (K : Int32) (hw : zWF h) (q : CS c s h) : zK (d + 16) m_X10_hoods [.ref 1, .int K] h (kI fun x h' => x = nI (hooN s.f K) ∧ CS c s h' ∧ lfr h h') :=
  r_X10_hoods_0 _ hw (q_follow hw q (fun h1 hw1 a1 a2 a3 => use_kI (c_hoodsFrom (CS_GF q) hw1 a1) (fun x h2 hw2 ⟨b1, b2⟩ => mk_kI hw2 ⟨b1, CS_frm b2 (by decide) (by decide) a2, lfr_tr a3 (lfr_f b2 (by decide) (by decide) (by decide))⟩)))
theorem q_broken (hw : zWF h) (q : CS c s h) : zK (d + 16) m_X10_broken [.ref 1, .int (nI 0)] h (kI fun x h' => x = nI (brkN 780 s.f 0 0).1 ∧ (brkN 780 s.f 0 0).1 ≤ 780 ∧ CS c s h' ∧ lfr h h') := by
  have e3 : h.L 3 = s.f := by obtain ⟨⟨n, en, qc, qn⟩, -, -⟩ := q; exact qc.1.1
  refine r_X10_broken_0 _ hw ⟨fun q => absurd q (by decide), fun _ => ⟨fun _ => use_kV (c_breakAll (d := d + 10) hw (by rw [e3]; exact CS_GF q)) (fun h3 hw3 ⟨a1, a2, a3, a4⟩ => ⟨fun z => absurd nI_0 z, fun _ => mk_kI hw3 ⟨?_, ?_, CS_frm a4 (by decide) (by decide) q, lfr_f a4 (by decide) (by decide) (by decide)⟩⟩), fun q => absurd (by decide) q⟩⟩
  · rw [a1, e3]
  · rw [← e3]; exact a3
theorem q_fewest (hw : zWF h) (q : CS c s h) : zK (d + 16) m_X10_fewest [.ref 1] h (kI fun x h' => x = fwN s.f 5 0 ∧ CS c s h' ∧ lfr h h') := by
  have e3 : h.L 3 = s.f := by obtain ⟨⟨n, en, qc, qn⟩, -, -⟩ := q; exact qc.1.1
  refine r_X10_fewest_0 hw (use_kI (c_fewestOf (d := d + 1) hw (by rw [e3]; exact CS_GF q)) (fun x h3 hw3 ⟨a1, a4⟩ => mk_kI hw3 ⟨?_, CS_frm a4 (by decide) (by decide) q, lfr_f a4 (by decide) (by decide) (by decide)⟩))
  rw [a1, e3]
theorem q_spell (hw : zWF h) (q : CS c s h) : zK (d + 16) m_X10_spell [.ref 1] h (kI fun x h' => (∃ t, t ≤ 12480 ∧ x = nI t) ∧ CS c s h' ∧ lfr h h') := by
  obtain ⟨⟨n, en, qc, qn⟩, qP, qT⟩ := q
  refine use_kI (c_spell (d := d + 11) hw qc.1 qn.1 qT) (fun a h1 hw1 ⟨a1, a2, a3⟩ => ⟨⟨_, ?_, a1⟩, ⟨⟨n, en, ⟨CN_pcf a3 qc.1, CL_pcf a3 qc.2⟩, qn⟩, ?_, _, a2⟩, lfr_p a3⟩)
  · have h1 := fe_len (f := s.f) (w := s.w) qn.1.2.2.2.2 1600 (Nat.le_refl _)
    have h2 := ec_le s.f
    omega
  · obtain ⟨f, q1, q2, q3, q4⟩ := qP
    refine ⟨f, q1, fun k hk => by rw [a3.2.2.2.2 13 (by decide)]; exact q2 k hk, by rw [a3.2.2.2.1 12 (by decide) (by decide) (by decide)]; exact q3, ?_⟩
    rw [a3.2.2.2.1 16 (by decide) (by decide) (by decide), a3.2.2.2.1 17 (by decide) (by decide) (by decide), a3.2.2.2.1 18 (by decide) (by decide) (by decide)]
    exact q4
end CALLS3
