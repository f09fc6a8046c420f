/-! SWAP in a pair -/
theorem gb_flip_o {f : Nat → Int64} {u v a b : Nat} (huv : u ≠ v) (hu : u < 40) (hv : v < 40) (hn : ¬ ((a = u ∧ b = v) ∨ (a = v ∧ b = u))) : gb (flip f u v a) b = gb (f a) b := by
  rw [gb_flip huv (by omega) (by omega), decide_eq_false hn, Bool.xor_false]
def swBad (x y z w : Int32) : Prop := twB x y = false ∨ twB z w = false ∨ x = z ∨ x = w ∨ y = z ∨ y = w
theorem twB_ne {x y : Int32} (h : twB x y = true) : x ≠ y := by
  obtain ⟨u, v, hu, hv, huv, rfl, rfl⟩ := twB_iff.mp h
  exact fun q => huv ((nI_eqE (by omega) (by omega)).mp q)
theorem bTb {b : Bool} (h : ¬ bI b = 0) : b = true := bT h
theorem bFb {b : Bool} (h : bI b = 0) : b = false := bF h
section SWAP
variable {d : Nat} {h : AH} {c : Nat}
theorem c_swapNo {x y z w : Int32} (hw : zWF h) (hb : swBad x y z w) : zK (d + 10) m_X10_swap [.ref 1, .int x, .int y, .int z, .int w] h (pI h (fun r => r = -1)) := by
  refine r_X10_swap_0 _ _ _ _ hw (use_pI (c_isTwo _ _) ⟨fun _ => mk_pI rfl, fun q1 => use_pI (c_isTwo _ _) ⟨fun _ => mk_pI rfl, fun q2 => ⟨fun _ => mk_pI rfl, fun q3 => ⟨fun _ => mk_pI rfl, fun q4 => ⟨fun _ => mk_pI rfl, fun q5 => ⟨fun q6 => ?_, fun _ => mk_pI rfl⟩⟩⟩⟩⟩⟩)
  exfalso
  rcases hb with e | e | e | e | e | e
  · rw [bTb q1] at e; cases e
  · rw [bTb q2] at e; cases e
  · exact q3 e
  · exact q4 e
  · exact q5 e
  · exact q6 e
theorem m_swapNo {x y z w : Int32} (hw : zWF h) (hb : swBad x y z w) : zK (d + 10) m_X11_swap [.ref 53, .int x, .int y, .int z, .int w] h (pI h (fun r => r = -1)) := by
  refine r_X11_swap_0 _ _ _ _ hw (use_pI (m_areTwo _ _) ⟨fun _ => mk_pI rfl, fun q1 => use_pI (m_areTwo _ _) ⟨fun _ => mk_pI rfl, fun q2 => use_pI (m_areTwo _ _) ⟨fun _ => mk_pI rfl, fun q3 => use_pI (m_areTwo _ _) ⟨fun _ => mk_pI rfl, fun q4 => use_pI (m_areTwo _ _) ⟨fun _ => mk_pI rfl, fun q5 => use_pI (m_areTwo _ _) ⟨fun q6 => ?_, fun _ => mk_pI rfl⟩⟩⟩⟩⟩⟩)
  exfalso
  rcases hb with e | e | e | e | e | e
  · rw [bTb q1] at e; cases e
  · rw [bTb q2] at e; cases e
  · exact twB_ne (bTb q3) e
  · exact twB_ne (bTb q4) e
  · exact twB_ne (bTb q5) e
  · exact twB_ne (bTb q6) e
def swSt (f : Nat → Int64) (u v a b : Nat) : Prop := gb (f u) v = false ∨ gb (f a) b = false ∨ gb (f u) b = true ∨ gb (f a) v = true
theorem swBad_n {u v a b : Nat} (hu : u < 40) (hv : v < 40) (ha : a < 40) (hb : b < 40) (huv : u ≠ v) (hab : a ≠ b) (h1 : u ≠ a) (h2 : u ≠ b) (h3 : v ≠ a) (h4 : v ≠ b) : ¬ swBad (nI u) (nI v) (nI a) (nI b) := by
  rintro (e | e | e | e | e | e)
  · rw [twB_iff.mpr ⟨u, v, hu, hv, huv, rfl, rfl⟩] at e; cases e
  · rw [twB_iff.mpr ⟨a, b, ha, hb, hab, rfl, rfl⟩] at e; cases e
  · exact h1 ((nI_eqE (by omega) (by omega)).mp e)
  · exact h2 ((nI_eqE (by omega) (by omega)).mp e)
  · exact h3 ((nI_eqE (by omega) (by omega)).mp e)
  · exact h4 ((nI_eqE (by omega) (by omega)).mp e)
theorem c_swapSt {u v a b : Nat} (hw : zWF h) (hu : u < 40) (hv : v < 40) (ha : a < 40) (hb : b < 40) (hn : ¬ swBad (nI u) (nI v) (nI a) (nI b)) (hs : swSt (h.L 3) u v a b) : zK (d + 10) m_X10_swap [.ref 1, .int (nI u), .int (nI v), .int (nI a), .int (nI b)] h (pI h (fun r => r = -3)) := by
  refine r_X10_swap_0 _ _ _ _ hw (use_pI (c_isTwo _ _) ⟨fun q => absurd (Or.inl (bFb q)) hn, fun _ => use_pI (c_isTwo _ _) ⟨fun q => absurd (Or.inr (Or.inl (bFb q))) hn, fun _ => ⟨fun q => absurd (Or.inr (Or.inr (Or.inl q))) hn, fun _ => ⟨fun q => absurd (Or.inr (Or.inr (Or.inr (Or.inl q)))) hn, fun _ => ⟨fun q => absurd (Or.inr (Or.inr (Or.inr (Or.inr (Or.inl q))))) hn, fun _ => ⟨fun _ => ?_, fun q => absurd (Or.inr (Or.inr (Or.inr (Or.inr (Or.inr q))))) hn⟩⟩⟩⟩⟩⟩)
  refine use_pI (c_joins hw hu hv) ⟨fun _ => mk_pI rfl, fun q1 => use_pI (c_joins hw ha hb) ⟨fun _ => mk_pI rfl, fun q2 => use_pI (c_joins hw hu hb) ⟨fun _ => mk_pI rfl, fun q3 => use_pI (c_joins hw ha hv) ⟨fun q4 => ?_, fun _ => mk_pI rfl⟩⟩⟩⟩
  exfalso
  rcases hs with e | e | e | e
  · rw [bTb q1] at e; cases e
  · rw [bTb q2] at e; cases e
  · rw [bFb q3] at e; cases e
  · rw [bFb q4] at e; cases e
theorem m_swapSt {u v a b : Nat} (hw : zWF h) (hu : u < 40) (hv : v < 40) (ha : a < 40) (hb : b < 40) (huv : u ≠ v) (hab : a ≠ b) (h1 : u ≠ a) (h2 : u ≠ b) (h3 : v ≠ a) (h4 : v ≠ b) (hs : swSt (h.L 58) u v a b) : zK (d + 10) m_X11_swap [.ref 53, .int (nI u), .int (nI v), .int (nI a), .int (nI b)] h (pI h (fun r => r = -3)) := by
  refine r_X11_swap_0 _ _ _ _ hw ?_
  have t : ∀ {x y : Nat}, x < 40 → y < 40 → x ≠ y → twB (nI x) (nI y) = true := fun {x y} hx hy hxy => twB_iff.mpr ⟨x, y, hx, hy, hxy, rfl, rfl⟩
  refine use_pI (m_areTwo _ _) ⟨fun q => absurd (bFb q) (by rw [t hu hv huv]; decide), fun _ => use_pI (m_areTwo _ _) ⟨fun q => absurd (bFb q) (by rw [t ha hb hab]; decide), fun _ => use_pI (m_areTwo _ _) ⟨fun q => absurd (bFb q) (by rw [t hu ha h1]; decide), fun _ => use_pI (m_areTwo _ _) ⟨fun q => absurd (bFb q) (by rw [t hu hb h2]; decide), fun _ => use_pI (m_areTwo _ _) ⟨fun q => absurd (bFb q) (by rw [t hv ha h3]; decide), fun _ => use_pI (m_areTwo _ _) ⟨fun _ => ?_, fun q => absurd (bFb q) (by rw [t hv hb h4]; decide)⟩⟩⟩⟩⟩⟩
  refine use_pI (m_isEdge hw hu hv) ⟨fun _ => mk_pI rfl, fun q1 => use_pI (m_isEdge hw ha hb) ⟨fun _ => mk_pI rfl, fun q2 => use_pI (m_isEdge hw hu hb) ⟨fun _ => mk_pI rfl, fun q3 => use_pI (m_isEdge hw ha hv) ⟨fun q4 => ?_, fun _ => mk_pI rfl⟩⟩⟩⟩
  exfalso
  rcases hs with e | e | e | e
  · rw [bTb q1] at e; cases e
  · rw [bTb q2] at e; cases e
  · rw [bFb q3] at e; cases e
  · rw [bFb q4] at e; cases e
theorem p_swap (x y z w : Int32) (hw : zWF h) (hN : NET c h) : zK (d + 10) m_X10_swap [.ref 1, .int x, .int y, .int z, .int w] h (kI fun a h1 => zK (d + 10) m_X11_swap [.ref 53, .int x, .int y, .int z, .int w] h1 (kI fun b h2 => a = b ∧ NET (c + 4) h2 ∧ same h h2)) := by
  have hN1 := NET_up (Nat.le_add_right c 4) hN
  obtain ⟨s, n, en, qc, qm, qn⟩ := hN
  have e3 : h.L 3 = s.f := qc.1.1
  have e58 : h.L 58 = s.f := qm.1.1
  by_cases hb : swBad x y z w
  · exact pI_kI hw (c_swapNo hw hb) (pI_kI hw (m_swapNo hw hb) ⟨rfl, hN1, same_rf⟩)
  obtain ⟨u, v, hu, hv, huv, rfl, rfl⟩ := twB_iff.mp (ts_nf (fun e => hb (Or.inl e)))
  obtain ⟨a, b, ha, hb', hab, rfl, rfl⟩ := twB_iff.mp (ts_nf (fun e => hb (Or.inr (Or.inl e))))
  have h1 : u ≠ a := fun e => hb (Or.inr (Or.inr (Or.inl (by rw [e]))))
  have h2 : u ≠ b := fun e => hb (Or.inr (Or.inr (Or.inr (Or.inl (by rw [e])))))
  have h3 : v ≠ a := fun e => hb (Or.inr (Or.inr (Or.inr (Or.inr (Or.inl (by rw [e]))))))
  have h4 : v ≠ b := fun e => hb (Or.inr (Or.inr (Or.inr (Or.inr (Or.inr (by rw [e]))))))
  by_cases hs : swSt s.f u v a b
  · exact pI_kI hw (c_swapSt hw hu hv ha hb' hb (by rw [e3]; exact hs)) (pI_kI hw (m_swapSt hw hu hv ha hb' huv hab h1 h2 h3 h4 (by rw [e58]; exact hs)) ⟨rfl, hN1, same_rf⟩)
  have g1 : gb (s.f u) v = true := ts_nf (fun e => hs (Or.inl e))
  have g2 : gb (s.f a) b = true := ts_nf (fun e => hs (Or.inr (Or.inl e)))
  have g3 : gb (s.f u) b = false := ts_nt (fun e => hs (Or.inr (Or.inr (Or.inl e))))
  have g4 : gb (s.f a) v = false := ts_nt (fun e => hs (Or.inr (Or.inr (Or.inr e))))
  have hsp := qn.1.2.2.2.1
  have n1 := num_go qn hu hv huv g1
  have f1 : (goS s u v).f = flip s.f u v := (goS_f s u v hsp).1
  have w1 : (goS s u v).w = s.w := (goS_f s u v hsp).2.1
  have g2' : gb ((goS s u v).f a) b = true := by rw [f1, gb_flip_o huv hu hv (by omega)]; exact g2
  have n2 := num_go n1 ha hb' hab g2'
  have f2 : (goS (goS s u v) a b).f = flip (flip s.f u v) a b := by rw [(goS_f _ a b n1.1.2.2.2.1).1, f1]
  have g3' : gb ((goS (goS s u v) a b).f u) b = false := by rw [f2, gb_flip_o hab ha hb' (by omega), gb_flip_o huv hu hv (by omega)]; exact g3
  have n3 := num_come n2 hu hb' h2 g3' (qn.1.2.2.2.2 (pr u v))
  have f3 : (comeS (goS (goS s u v) a b) u b (s.w (pr u v))).f = flip (flip (flip s.f u v) a b) u b := by rw [(comeS_f _ u b _).1, f2]
  have g4' : gb ((comeS (goS (goS s u v) a b) u b (s.w (pr u v))).f a) v = false := by rw [f3, gb_flip_o h2 hu hb' (by omega), gb_flip_o hab ha hb' (by omega), gb_flip_o huv hu hv (by omega)]; exact g4
  have n4 := num_come n3 ha hv (fun e => h3 e.symm) g4' (qn.1.2.2.2.2 (pr a b))
  refine r_X10_swap_0 _ _ _ _ hw (use_pI (c_isTwo _ _) ⟨fun q => absurd (Or.inl (bFb q)) hb, fun _ => use_pI (c_isTwo _ _) ⟨fun q => absurd (Or.inr (Or.inl (bFb q))) hb, fun _ => ⟨fun q => absurd (Or.inr (Or.inr (Or.inl q))) hb, fun _ => ⟨fun q => absurd (Or.inr (Or.inr (Or.inr (Or.inl q)))) hb, fun _ => ⟨fun q => absurd (Or.inr (Or.inr (Or.inr (Or.inr (Or.inl q))))) hb, fun _ => ⟨fun _ => ?_, fun q => absurd (Or.inr (Or.inr (Or.inr (Or.inr (Or.inr q))))) hb⟩⟩⟩⟩⟩⟩)
  refine use_pI (c_joins hw hu hv) ⟨fun q => absurd (bFb q) (by rw [e3, g1]; decide), fun _ => use_pI (c_joins hw ha hb') ⟨fun q => absurd (bFb q) (by rw [e3, g2]; decide), fun _ => use_pI (c_joins hw hu hb') ⟨fun q => absurd (bTb q) (by rw [e3, g3]; decide), fun _ => use_pI (c_joins hw ha hv) ⟨fun _ => ?_, fun q => absurd (bTb q) (by rw [e3, g4]; decide)⟩⟩⟩⟩
  refine use_pI (c_pairOf hu hv) ⟨vp_in_nI (pr_lt hu hv) (by decide), use_pI (c_pairOf ha hb') ⟨vp_in_nI (pr_lt ha hb') (by decide), ?_⟩⟩
  rw [cl_n (pr_lt hu hv) (by decide), cl_n (pr_lt ha hb') (by decide), qc.1.2.1 u v hu hv g1, qc.1.2.1 a b ha hb' g2]
  refine use_kV (c_dropN hw qc qn hu hv huv g1) (fun k1 hk1 ⟨c1, o1⟩ => use_kV (c_dropN hk1 c1 n1 ha hb' hab g2') (fun k2 hk2 ⟨c2, o2⟩ => use_kV (c_bringN hk2 c2 n2 hu hb' h2 g3') (fun k3 hk3 ⟨c3, o3⟩ => use_kV (c_bringN hk3 c3 n3 ha hv (fun e => h3 e.symm) g4') (fun k4 hk4 ⟨c4, o4⟩ => use_pI (c_triangles (sh_3 hk4)) (mk_kI hk4 ?_)))))
  have fr : cfr h k4 := cfr_tr o1 (cfr_tr o2 (cfr_tr o3 o4))
  have qm4 := mN_cfr fr qm
  have e58' : k4.L 58 = s.f := qm4.1.1
  refine r_X11_swap_0 _ _ _ _ hk4 ?_
  have t : ∀ {x y : Nat}, x < 40 → y < 40 → x ≠ y → twB (nI x) (nI y) = true := fun {x y} hx hy hxy => twB_iff.mpr ⟨x, y, hx, hy, hxy, rfl, rfl⟩
  refine use_pI (m_areTwo _ _) ⟨fun q => absurd (bFb q) (by rw [t hu hv huv]; decide), fun _ => use_pI (m_areTwo _ _) ⟨fun q => absurd (bFb q) (by rw [t ha hb' hab]; decide), fun _ => use_pI (m_areTwo _ _) ⟨fun q => absurd (bFb q) (by rw [t hu ha h1]; decide), fun _ => use_pI (m_areTwo _ _) ⟨fun q => absurd (bFb q) (by rw [t hu hb' h2]; decide), fun _ => use_pI (m_areTwo _ _) ⟨fun q => absurd (bFb q) (by rw [t hv ha h3]; decide), fun _ => use_pI (m_areTwo _ _) ⟨fun _ => ?_, fun q => absurd (bFb q) (by rw [t hv hb' h4]; decide)⟩⟩⟩⟩⟩⟩
  refine use_pI (m_isEdge hk4 hu hv) ⟨fun q => absurd (bFb q) (by rw [e58', g1]; decide), fun _ => use_pI (m_isEdge hk4 ha hb') ⟨fun q => absurd (bFb q) (by rw [e58', g2]; decide), fun _ => use_pI (m_isEdge hk4 hu hb') ⟨fun q => absurd (bTb q) (by rw [e58', g3]; decide), fun _ => use_pI (m_isEdge hk4 ha hv) ⟨fun _ => ?_, fun q => absurd (bTb q) (by rw [e58', g4]; decide)⟩⟩⟩⟩
  refine use_pI (m_edge hu hv) ⟨vp_in_nI (pr_lt hu hv) (by decide), use_pI (m_edge ha hb') ⟨vp_in_nI (pr_lt ha hb') (by decide), ?_⟩⟩
  rw [cl_n (pr_lt hu hv) (by decide), cl_n (pr_lt ha hb') (by decide), qm4.1.2.1 u v hu hv g1, qm4.1.2.1 a b ha hb' g2]
  refine use_kV (m_goesN hk4 qm4 qn hu hv huv g1) (fun l1 hl1 ⟨d1, p1⟩ => use_kV (m_goesN hl1 d1 n1 ha hb' hab g2') (fun l2 hl2 ⟨d2, p2⟩ => use_kV (m_comesN hl2 d2 n2 hu hb' h2 g3') (fun l3 hl3 ⟨d3, p3⟩ => use_kV (m_comesN hl3 d3 n3 ha hv (fun e => h3 e.symm) g4') (fun l4 hl4 ⟨d4, p4⟩ => use_pI (m_triangles hl4) (mk_kI hl4 ?_)))))
  have fr2 : ofr k4 l4 := ofr_tr p1 (ofr_tr p2 (ofr_tr p3 p4))
  refine ⟨?_, ⟨_, _, _, cN_ofr fr2 c4, d4, n4⟩, same_tr (cfr_same fr) (ofr_same fr2)⟩
  rw [c4.1.1, d4.1.1]
end SWAP
