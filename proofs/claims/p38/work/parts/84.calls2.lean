/-! calls that change the net -/
theorem flip_and {f : Nat → Int64} {u v : Nat} (hf : GF f) (hu : u < 40) (hv : v < 40) (huv : u ≠ v) : flip f u v u &&& flip f u v v = f u &&& f v := gb_ext (fun i _ => by
  rw [gb_and, gb_and, gb_flip huv (by omega) (by omega), gb_flip huv (by omega) (by omega)]
  by_cases e1 : i = v
  · subst e1
    rw [decide_eq_false (p := (i = u ∧ i = i) ∨ (i = i ∧ i = u)) (by omega), hf.2.1 i, Bool.xor_false, Bool.and_false, Bool.and_false]
  · by_cases e2 : i = u
    · subst e2
      rw [decide_eq_false (p := (i = i ∧ i = v) ∨ (i = v ∧ i = i)) (by omega), hf.2.1 i, Bool.xor_false, Bool.false_and, Bool.false_and]
    · rw [decide_eq_false (p := (u = u ∧ i = v) ∨ (u = v ∧ i = u)) (by omega), decide_eq_false (p := (v = u ∧ i = v) ∨ (v = v ∧ i = u)) (by omega), Bool.xor_false, Bool.xor_false])
section CALLS2
variable {d : Nat} {h : AH} {s : NS} {n c : Nat} {en : Nat → Ent}
theorem q_addE {u : Nat} (z : Int32) (hw : zWF h) : zK (d + 16) m_X10_add [.ref 1, .int (nI u), .int (nI u), .int z] h (kI fun x h' => x = (-1) ∧ h' = h) := by
  refine r_X10_add_0 _ _ _ hw (use_pI (c_isTwo _ _) ?_)
  rw [twF]
  exact ⟨fun q => absurd bf0 q, fun _ => mk_kI hw ⟨rfl, rfl⟩⟩
theorem q_cutE {u : Nat} (hw : zWF h) : zK (d + 16) m_X10_cut [.ref 1, .int (nI u), .int (nI u)] h (kI fun x h' => x = (-1) ∧ h' = h) := by
  refine r_X10_cut_0 _ _ hw (use_pI (c_isTwo _ _) ?_)
  rw [twF]
  exact ⟨fun q => absurd bf0 q, fun _ => mk_kI hw ⟨rfl, rfl⟩⟩
theorem q_add {u v : Nat} {z : Int32} (hw : zWF h) (qc : cN h s n en) (qn : num c s n en) (hu : u < 40) (hv : v < 40) (huv : u ≠ v) (hz : wbd z) : zK (d + 16) m_X10_add [.ref 1, .int (nI u), .int (nI v), .int z] h (kI fun x h' => (gb (s.f u) v = true ∧ x = (-3) ∧ h' = h) ∨ (gb (s.f u) v = false ∧ x = nI (pc (s.f u &&& s.f v)) ∧ (cN h' (comeS s u v z) (lpush n en (u, v, true, z)).1 (lpush n en (u, v, true, z)).2 ∧ num (c + 1) (comeS s u v z) (lpush n en (u, v, true, z)).1 (lpush n en (u, v, true, z)).2) ∧ cfr h h')) := by
  refine r_X10_add_0 _ _ _ hw (use_pI (c_isTwo _ _) ?_)
  rw [twT hu hv huv]
  refine ⟨fun _ => ⟨fun q => absurd q (wbd_1 hz), fun _ => ⟨fun _ => use_pI (c_joins hw hu hv) ?_, fun q => absurd (wbd_2 hz) q⟩⟩, fun q => absurd q bt0⟩
  rw [qc.1.1]
  cases hg : gb (s.f u) v with
  | true => exact ⟨fun q => absurd q bt0, fun _ => mk_kI hw (Or.inl ⟨rfl, rfl, rfl⟩)⟩
  | false =>
    refine ⟨fun _ => use_kV (c_bringN hw qc qn hu hv huv hg) (fun h1 hw1 ⟨a1, a2⟩ => use_pI (c_shared (sh_3 hw1) hu hv) (mk_kI hw1 (Or.inr ⟨rfl, ?_, ⟨a1, num_come qn hu hv huv hg hz⟩, a2⟩))), fun q => absurd bf0 q⟩
    rw [a1.1.1, (comeS_f s u v z).1, flip_and qn.1.1 hu hv huv]
theorem q_cut {u v : Nat} (hw : zWF h) (qc : cN h s n en) (qn : num c s n en) (hu : u < 40) (hv : v < 40) (huv : u ≠ v) : zK (d + 16) m_X10_cut [.ref 1, .int (nI u), .int (nI v)] h (kI fun x h' => (gb (s.f u) v = false ∧ x = (-3) ∧ h' = h) ∨ (gb (s.f u) v = true ∧ x = nI (pc (s.f u &&& s.f v)) ∧ (cN h' (goS s u v) (lpush n en (u, v, false, s.w (pr u v))).1 (lpush n en (u, v, false, s.w (pr u v))).2 ∧ num (c + 1) (goS s u v) (lpush n en (u, v, false, s.w (pr u v))).1 (lpush n en (u, v, false, s.w (pr u v))).2) ∧ cfr h h')) := by
  refine r_X10_cut_0 _ _ hw (use_pI (c_isTwo _ _) ?_)
  rw [twT hu hv huv]
  refine ⟨fun _ => use_pI (c_joins hw hu hv) ?_, fun q => absurd q bt0⟩
  rw [qc.1.1]
  cases hg : gb (s.f u) v with
  | false => exact ⟨fun q => absurd bf0 q, fun _ => mk_kI hw (Or.inl ⟨rfl, rfl, rfl⟩)⟩
  | true =>
    refine ⟨fun _ => use_kV (c_dropN hw qc qn hu hv huv hg) (fun h1 hw1 ⟨a1, a2⟩ => use_pI (c_shared (sh_3 hw1) hu hv) (mk_kI hw1 (Or.inr ⟨rfl, ?_, ⟨a1, num_go qn hu hv huv hg⟩, a2⟩))), fun q => absurd q bt0⟩
    rw [a1.1.1, (goS_f s u v qn.1.2.2.2.1).1, flip_and qn.1.1 hu hv huv]
/-- some net is there, and it came from h0 by changes alone -/
def ANY (h0 h : AH) : Prop := (∃ c s n en, cN h s n en ∧ num c s n en) ∧ cfr h0 h
theorem any_rf (qc : cN h s n en) (qn : num c s n en) : ANY h h := ⟨⟨c, s, n, en, qc, qn⟩, cfr_rf⟩
theorem any_add {h0 : AH} {u v : Nat} {z : Int32} (hw : zWF h) (q : ANY h0 h) (hu : u < 40) (hv : v < 40) (huv : u ≠ v) (hz : wbd z) : zK (d + 16) m_X10_add [.ref 1, .int (nI u), .int (nI v), .int z] h (kI fun _ h' => ANY h0 h') := by
  obtain ⟨⟨c, s, n, en, qc, qn⟩, f⟩ := q
  refine use_kI (q_add hw qc qn hu hv huv hz) (fun x h1 hw1 k => ?_)
  rcases k with ⟨_, _, rfl⟩ | ⟨_, _, ⟨k1, k2⟩, k3⟩
  · exact ⟨⟨c, s, n, en, qc, qn⟩, f⟩
  · exact ⟨⟨_, _, _, _, k1, k2⟩, cfr_tr f k3⟩
theorem any_cut {h0 : AH} {u v : Nat} (hw : zWF h) (q : ANY h0 h) (hu : u < 40) (hv : v < 40) : zK (d + 16) m_X10_cut [.ref 1, .int (nI u), .int (nI v)] h (kI fun _ h' => ANY h0 h') := by
  by_cases huv : u = v
  · subst huv
    exact use_kI (q_cutE hw) (fun x h1 hw1 ⟨_, k⟩ => k ▸ q)
  · obtain ⟨⟨c, s, n, en, qc, qn⟩, f⟩ := q
    refine use_kI (q_cut hw qc qn hu hv huv) (fun x h1 hw1 k => ?_)
    rcases k with ⟨_, _, rfl⟩ | ⟨_, _, ⟨k1, k2⟩, k3⟩
    · exact ⟨⟨c, s, n, en, qc, qn⟩, f⟩
    · exact ⟨⟨_, _, _, _, k1, k2⟩, cfr_tr f k3⟩
theorem any_back {h0 : AH} (hw : zWF h) (q : ANY h0 h) : zK (d + 16) m_X10_back [.ref 1, .int (nI 3)] h (kI fun _ h' => ANY h0 h') := by
  obtain ⟨⟨c, s, n, en, qc, qn⟩, f⟩ := q
  refine r_X10_back_0 _ hw ⟨fun q => absurd q (by decide), fun _ => ⟨fun _ => use_kI (c_takeN 3 (by decide) hw qc qn) (fun x h1 hw1 ⟨a0, a1, a2⟩ => mk_kI hw1 ⟨⟨_, _, _, _, a1, (num_bk 3 qn).1⟩, cfr_tr f a2⟩), fun q => absurd (by decide) q⟩⟩
/-- image, changes, undo: all is as it was -/
theorem q_image (hw : zWF h) (qc : cN h s n en) : zK (d + 16) m_X10_image [.ref 1] h (kI fun x h' => x = nI s.E ∧ cN h' s n en ∧ CW h' 7 8 9 10 11 s n en ∧ h'.I 1 2 = nI 1 ∧ frm [1, 7, 9, 10, 11] [7, 8] h h') := by
  refine r_X10_image_0 hw (use_kV (c_becomeK hw (CW_of qc)) (fun h1 hw1 ⟨a1, a2, a3⟩ h2 q2 => ?_))
  have f2 : frm [1] [] h1 h2 := frm_wI q2 (by decide)
  have f02 : frm [1, 7, 9, 10, 11] [7, 8] h h2 := frm_tr (frm_up a3 (by decide) (by decide)) (frm_up f2 (by decide) (by decide))
  have qc2 := cN_frm2 f02 qc (by decide) (by decide)
  exact mk_kI (wf_I q2 hw1) ⟨qc2.1.2.2.1, qc2, CW_frm f2 a1 (by decide) (by decide), by rw [q2]; rfl, f02⟩
theorem q_undo {h0 : AH} (hw : zWF h) (q : ANY h0 h) (hc : CW h0 7 8 9 10 11 s n en) (hi : h0.I 1 2 = nI 1) (hf : GF s.f) : zK (d + 16) m_X10_undo [.ref 1] h (kI fun x h' => x = nI s.E ∧ cN h' s n en ∧ frm [2, 4, 5, 6] [2, 3] h0 h') := by
  obtain ⟨⟨c, s0, n0, en0, qc0, qn0⟩, f⟩ := q
  have i1 : h.I 1 = h0.I 1 := frm_I f.1 (by decide)
  refine r_X10_undo_0 hw ⟨fun _ => ?_, fun z => absurd z (by rw [i1, hi]; decide)⟩
  refine use_kV (c_becomeN hw (CW_frm f.1 hc (by decide) (by decide)) hf (fun k hk => by rw [qc0.1.1]; exact GF_0 qn0.1.1 hk)) (fun h1 hw1 ⟨a1, a2, a3⟩ => mk_kI hw1 ⟨a1.1.2.2.1, a1, frm_tr f.1 a3⟩)
end CALLS2
