def jd (C : Nat → Int64) (F : Nat → Nat) : Nat → Nat → Int32
  | 0, u => if u = 40 then -5 else nI (100 + u)
  | n + 1, u => if C u = (nI (F u)).toInt64 then jd C F n (u + 1) else nI u
section JUDGE
variable {d : Nat} {h : AH} {c : Nat}
theorem c_judgeLoop {l k p : Nat} {F : Nat → Nat} (x1 : Int32) (hl : l < 6) (hp : p ≤ 40) (hk : 0 < p → x1 = nI k ∧ k + p ≤ 60) (hw : zWF h) (h40 : ∀ u, u < 40 → h.I 40 u = nI (F u)) : ∀ n u, n + u = p → zQ none m_X10_judge (d + 2) 63 [(0, .ref 1), (2, .int x1), (4, .ref (41 + 2 * l)), (5, .int (nI p)), (6, .int (nI u))] [] h (pI h (fun x => x = jd (fun u => h.L (42 + 2 * l) (k + u)) F n u)) := by
  intro n
  induction n with
  | zero =>
    intro u hu
    rw [Nat.zero_add] at hu
    subst hu
    refine r_X10_judge_63 _ _ _ _ hw (zrow hl) ⟨fun _ => ?_, fun z => absurd ((nI_leE (by omega) (by omega)).mpr (Nat.le_refl _)) z⟩
    rw [nI_leE (by decide) (by omega)]
    refine ⟨fun z => mk_pI (if_pos (by omega)).symm, fun z => mk_pI ?_⟩
    rw [nI_add]
    exact (if_neg (by omega)).symm
  | succ n ih =>
    intro u hu
    obtain ⟨rfl, hk2⟩ := hk (by omega)
    refine r_X10_judge_63 _ _ _ _ hw (zrow hl) ⟨fun z => absurd ((nI_leE (by omega) (by omega)).mp z) (by omega), fun _ => ?_⟩
    rw [nI_add, nI_add, lg_cmp0, cl40 (show u < 40 by omega), h40 u (by omega), cl_n (show k + u < 60 by omega) (by decide), show 41 + 2 * l + 1 = 42 + 2 * l by omega]
    refine ⟨vp_in_nI (by omega) (by decide), vi40 (by omega), fun z => ?_, fun z => mk_pI (if_neg z).symm⟩
    have := ih (u + 1) (by omega)
    have e : jd (fun u => h.L (42 + 2 * l) (k + u)) F (n + 1) u = jd (fun u => h.L (42 + 2 * l) (k + u)) F n (u + 1) := if_pos z
    rw [e]
    exact this
theorem m_judgeLoop {l n0 k p s : Nat} (x1 : Int32) (hl : l < 6) (hs : s < 4) (hp : p ≤ 40) (hn : n0 ≤ 60) (h69 : h.I 69 l = nI n0) (hc : s = 2 → ∀ u, u < 40 → h.I 60 u = nI (cor (h.L 58) u)) (hw : zWF h) (hk : 0 < p → x1 = nI k ∧ k + p ≤ n0) (hend : p < 40 → (x1 < 0 ∨ ¬ nI p < nI n0 - x1)) : ∀ n u, n + u = p → zQ none m_X11_judge (d + 5) 37 [(0, .ref 53), (1, .int (nI l)), (2, .int x1), (3, .int (nI s)), (4, .int (nI u))] [] h (pI h (fun x => x = jd (fun u => h.L 70 (60 * l + k + u)) (fig (h.L 58) s) n u)) := by
  intro n
  induction n with
  | zero =>
    intro u hu
    rw [Nat.zero_add] at hu
    subst hu
    refine r_X11_judge_37 _ _ _ _ hw ?_
    rw [nI_leE (by decide) (by omega), cl_n hl (by decide), h69, nI_add]
    refine ⟨fun z => mk_pI (if_pos (by omega)).symm, fun z => ⟨fun _ => mk_pI (if_neg (by omega)).symm, fun z1 => ⟨v6r hl, fun z2 => ?_, fun _ => mk_pI (if_neg (by omega)).symm⟩⟩⟩
    rcases hend (by omega) with e | e
    · exact absurd e z1
    · exact absurd z2 e
  | succ n ih =>
    intro u hu
    obtain ⟨rfl, hk2⟩ := hk (by omega)
    refine r_X11_judge_37 _ _ _ _ hw ⟨fun z => absurd z (n40 (by omega)), fun _ => ⟨fun z => absurd z (nI_lt0 (by omega)), fun _ => ⟨v6r hl, ?_⟩⟩⟩
    rw [cl_n hl (by decide), h69, nI_subE (by omega), nI_ltE (by omega) (by omega), nI_mulE, nI_add, nI_add, nI_add, cl_n (show 60 * l + k + u < 360 by omega) (by decide)]
    refine ⟨fun _ => ⟨vp_in_nI (by omega) (by decide), use_pI (m_figure hw hs (by omega) (fun z => hc z u (by omega))) ?_⟩, fun z => absurd (show u < n0 - k by omega) z⟩
    rw [lg_cmp0]
    refine ⟨fun z => ?_, fun z => mk_pI (if_neg z).symm⟩
    have := ih (u + 1) (by omega)
    have e : jd (fun u => h.L 70 (60 * l + k + u)) (fig (h.L 58) s) (n + 1) u = jd (fun u => h.L 70 (60 * l + k + u)) (fig (h.L 58) s) n (u + 1) := if_pos z
    rw [e]
    exact this
theorem jd_cong {C C' : Nat → Int64} {F : Nat → Nat} : ∀ n u, (∀ i, u ≤ i → i < u + n → C i = C' i) → jd C F n u = jd C' F n u
  | 0, _, _ => rfl
  | n + 1, u, h => by
    show (if _ then _ else _) = (if _ then _ else _)
    rw [h u (by omega) (by omega), jd_cong n (u + 1) (fun i h1 h2 => h i (by omega) (by omega))]
theorem p_judge (x y z : Int32) (hw : zWF h) (hN : NET c h) (hL : LST h) : zK (d + 10) m_X10_judge [.ref 1, .int x, .int y, .int z] h (kI fun a h1 => zK (d + 10) m_X11_judge [.ref 53, .int x, .int y, .int z] h1 (kI fun b h2 => a = b ∧ NET c h2 ∧ LST h2 ∧ frm [40, 60] [] h h2)) := by
  have noM : (lsB x = false ∨ srB z = false) → zK (d + 10) m_X11_judge [.ref 53, .int x, .int y, .int z] h (kI fun b h2 => -1 = b ∧ NET c h2 ∧ LST h2 ∧ frm [40, 60] [] h h2) := by
    intro q
    refine r_X11_judge_0 _ _ _ hw (use_pI (m_isList _) ⟨fun _ => mk_kI hw ⟨rfl, hN, hL, frm_rf⟩, fun q1 => use_pI (m_isIn _ _ _) ⟨fun q2 => ?_, fun _ => mk_kI hw ⟨rfl, hN, hL, frm_rf⟩⟩⟩)
    exfalso
    rcases q with q | q
    · rw [bTb q1] at q; cases q
    · have q2 : srB z = true := bTb q2
      rw [q2] at q; cases q
  cases hx : lsB x with
  | false => exact r_X10_judge_0 _ _ _ hw (row_no hw hx (mk_kI hw (noM (Or.inl hx))))
  | true =>
    obtain ⟨l, hl, rfl⟩ := lsB_iff.mp hx
    refine r_X10_judge_0 _ _ _ hw (row_at hw hL hl (use_pI (c_isSort _) ?_))
    cases hz : srB z with
    | false => exact ⟨fun q => absurd bf0 q, fun _ => mk_kI hw (noM (Or.inr hz))⟩
    | true =>
      obtain ⟨s, hs, rfl⟩ := srB_iff.mp hz
      refine ⟨fun _ => ?_, fun q => absurd q bt0⟩
      have hz' : (decide (¬ nI s < nI 0) && decide (¬ nI 3 < nI s)) = true := hz
      rcases LST_there hL hl with ⟨c1, c2, c3⟩ | ⟨n, hn, c1, c2, c3, c4⟩
      · rw [c1]
        refine ⟨fun q => absurd i0_eq0 q, fun _ => mk_kI hw (r_X11_judge_0 _ _ _ hw (use_pI (m_isList _) ?_))⟩
        rw [hx]
        refine ⟨fun q => absurd q bt0, fun _ => use_pI (m_isIn _ _ _) ?_⟩
        rw [hz', cl_n hl (by decide), c3]
        exact ⟨fun _ => ⟨v6r hl, fun q => absurd q (by decide), fun _ => mk_kI hw ⟨rfl, hN, hL, frm_rf⟩⟩, fun q => absurd q bt0⟩
      · rw [c1]
        refine ⟨fun _ => ?_, fun q => absurd q i1_ne0⟩
        obtain ⟨st, nn, en, qc, qm, qn⟩ := hN
        refine use_kV (c_layFigures hw (sh_3 hw) (sh_40 hw) hs) (fun h5 hw5 ⟨g, e5, hg⟩ => ?_)
        have f5 : frm [40] [] h h5 := frm_wI e5 (by decide)
        have qc5 := cN_frm f5 qc (by decide) (by decide)
        have qm5 := mN_frm f5 qm (by decide) (by decide)
        have L5 : LST h5 := LST_frm f5 hL (by decide) (by decide)
        have d2 : h5.I (41 + 2 * l) 3 = nI n := by rw [frm_I f5 (by simp; omega)]; exact c2
        have y69 : h5.I 69 l = nI n := by rw [frm_I f5 (by decide)]; exact c3
        have fin : ∀ p k, p ≤ 40 → (0 < p → y = nI k ∧ k + p ≤ n) → (p < 40 → (y < 0 ∨ ¬ nI p < nI n - y)) → zQ none m_X10_judge (d + 9 + 1) 63 [(0, .ref 1), (2, .int y), (4, .ref (41 + 2 * l)), (5, .int (nI p)), (6, .int (nI 0))] [] h5 (kI fun a h1 => zK (d + 10) m_X11_judge [.ref 53, .int (nI l), .int y, .int (nI s)] h1 (kI fun b h2 => a = b ∧ NET c h2 ∧ LST h2 ∧ frm [40, 60] [] h h2)) := by
          intro p k hp hk hend
          refine zq_mono (c_judgeLoop (d := d + 8) (k := k) (F := fig st.f s) y hl hp (fun z => ⟨(hk z).1, by have := (hk z).2; omega⟩) hw5 (fun u hu => by rw [e5, AH.wI_I, hg u hu, qc.1.1]) p 0 rfl) (fun r h6 ⟨a, r1, r2, r3⟩ => ?_)
          subst r2
          refine ⟨a, r1, hw5, r_X11_judge_0 _ _ _ hw5 (use_pI (m_isList _) ?_)⟩
          rw [hx]
          refine ⟨fun q => absurd q bt0, fun _ => use_pI (m_isIn _ _ _) ?_⟩
          rw [hz', cl_n hl (by decide), y69]
          refine ⟨fun _ => ⟨v6r hl, fun _ => use_kV (m_cores hw5 (by rw [qm5.1.1]; exact qn.1.1)) (fun h7 hw7 ⟨g7, e7, hg7⟩ => ?_), fun q => absurd (nI_0le (by omega)) q⟩, fun q => absurd q bt0⟩
          have f7 : frm [60] [] h5 h7 := frm_wI e7 (by decide)
          have x58 : h7.L 58 = st.f := by rw [frm_L f7 (by decide)]; exact qm5.1.1
          refine zq_mono (m_judgeLoop (d := d + 5) (k := k) (p := p) y hl hs hp hn (by rw [frm_I f7 (by decide)]; exact y69) (fun _ u hu => by rw [e7, AH.wI_I, hg7 u hu]; rfl) hw7 hk hend p 0 rfl) (fun r h8 ⟨b, s1, s2, s3⟩ => ?_)
          subst s2
          refine ⟨b, s1, hw7, ?_, ⟨st, nn, en, cN_frm f7 qc5 (by decide) (by decide), mN_frm f7 qm5 (by decide) (by decide), qn⟩, LST_frm f7 L5 (by decide) (by decide), frm_tr (frm_up f5 (by decide) (by decide)) (frm_up f7 (by decide) (by decide))⟩
          rw [r3, s3, x58]
          refine jd_cong _ _ (fun i _ hi => ?_)
          rw [Nat.zero_add] at hi
          have hk2 := (hk (by omega)).2
          show h5.L (42 + 2 * l) (k + i) = h7.L 70 (60 * l + k + i)
          rw [frm_L f7 (by simp), frm_L (k := 70) f5 (by simp), frm_L f5 (by simp), c4 _ (by omega)]
          congr 1; omega
        rcases places y hn with ⟨k, hk, rfl⟩ | ⟨hno, hend⟩
        · refine use_pI (c_places_in hw5 hl hn d2 hk) ?_
          rw [zmmin_n (by decide) (by omega)]
          refine fin (min 40 (n - k)) k (by omega) (fun _ => ⟨rfl, by omega⟩) (fun hp => Or.inr ?_)
          rw [nI_subE (by omega), nI_ltE (by omega) (by omega)]
          omega
        · refine use_pI (c_places_out hw5 hl hn d2 hno) ?_
          rw [zmmin_n (by decide) (by decide)]
          exact fin 0 0 (by decide) (fun z => absurd z (by decide)) (fun _ => hend)
end JUDGE
