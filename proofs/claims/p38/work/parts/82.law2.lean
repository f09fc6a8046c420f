/-! the law's own net: the same numbers -/
def LN (h : AH) (s : NS) : Prop := h.L 53 = s.f ∧ h.I 54 5 = nI s.E ∧ h.I 54 0 = nI s.sp ∧ h.L 55 0 = s.hv ∧ h.I 54 1 = nI s.mv ∧ h.I 54 2 = nI s.cr ∧ h.I 54 3 = nI s.rb ∧ h.I 54 4 = nI s.ch
def lwf (h h' : AH) : Prop := frm [54] [53, 55] h h'
theorem lwf_rf {h : AH} : lwf h h := frm_rf
theorem lwf_tr {h h1 h2 : AH} (a : lwf h h1) (b : lwf h1 h2) : lwf h h2 := frm_tr a b
theorem lwf_I {h h' : AH} {j : Nat} {x : Int32} (e : h' = h.sI 54 j x) : lwf h h' := frm_wI e (by decide)
theorem lwf_L {h h' : AH} {k j : Nat} {x : Int64} (e : h' = h.sL k j x) (hk : k ∈ [53, 55]) : lwf h h' := frm_wL e hk
section LAW2
variable {d : Nat} {h : AH} {s : NS}
theorem l_looks {v : Nat} (hw : zWF h) (hC : LN h s) (hv : v < 40) (hsp : s.sp ≤ 1600) : zK (d + 2) m_L_looks [.ref 53, .ref 54, .ref 55, .int (nI v)] h (kV (fun h' => LN h' (look s v) ∧ lwf h h')) := by
  obtain ⟨e1, e3, e4, e5, e6, e7, e8, e9⟩ := id hC
  have hb := bnd_le s.sp
  have hp := pc_le (s.f v)
  have no : lkP s.f s.hv s.sp v = false → kV (fun h' => LN h' (look s v) ∧ lwf h h') none h := fun z =>
    mk_kV hw ⟨by rw [look, if_neg (by rw [z]; decide)]; exact hC, lwf_rf⟩
  have yes : lkP s.f s.hv s.sp v = true → vp_in (nI 0) 1 ∧ (vp_in (nI 0) 1 ∧ (∀ h11, h11 = h.sL 55 0 (s.hv ^^^ ((1 : Int64) <<< ((nI v).toInt64 &&& 63))) → vp_in (nI 1) 8 ∧ (vp_in (nI 1) 8 ∧ (∀ h14, h14 = h11.sI 54 (nI 1).toNatClampNeg ((h11.I 54 (nI 1).toNatClampNeg) + (nI 1)) → vp_in (nI 2) 8 ∧ (vp_in (nI 2) 8 ∧ (∀ h17, h17 = h14.sI 54 (nI 2).toNatClampNeg ((h14.I 54 (nI 2).toNatClampNeg) + nI (pc (s.f v))) → kV (fun h' => LN h' (look s v) ∧ lwf h h') none h17)))))) := by
    intro z
    refine ⟨o0, o0, fun h11 q11 => ⟨w1, w1, fun h14 q14 => ⟨w2, w2, fun h17 q17 => ?_⟩⟩⟩
    have f1 : h11.I 54 1 = nI s.mv := by rw [q11]; exact e6
    rw [k1, f1, nI_add] at q14
    have f2 : h14.I 54 2 = nI s.cr := by rw [q14, q11]; exact e7
    rw [k2, f2, nI_add] at q17
    refine mk_kV (wf_I q17 (wf_I q14 (wf_L q11 hw))) ⟨?_, lwf_tr (lwf_L q11 (by decide)) (lwf_tr (lwf_I q14) (lwf_I q17))⟩
    rw [look, if_pos z]
    have e55 : h17.L 55 0 = s.hv ^^^ one v := by rw [q17, q14, q11]; rfl
    subst q17 q14 q11
    exact ⟨e1, e3, e4, e55, rfl, rfl, e8, e9⟩
  refine r_L_looks_0 (nI v) hw ⟨vi40 hv, use_pI (l_bits _ hw) ⟨o0, use_pI (l_has hw (by omega)) ?_⟩⟩
  rw [k0, e5, e1, cl40 hv]
  refine ⟨fun q => use_pI (l_bound hw e4 hsp) ?_, fun q => use_pI (l_bound hw e4 hsp) ?_⟩
  · have q := bFb q
    rw [nI_mulE, nI_mulE, nI_ltE (by omega) (by omega)]
    refine ⟨fun z => ⟨fun _ => no ?_, fun y => absurd nI_0 y⟩, fun z => ⟨fun y => absurd y i1_ne0, fun _ => yes ?_⟩⟩
    · unfold lkP; rw [if_neg (by rw [q]; decide), decide_eq_false_iff_not]; omega
    · unfold lkP; rw [if_neg (by rw [q]; decide), decide_eq_true_iff]; omega
  · have q := bTb q
    rw [nI_mulE, nI_leE (by omega) (by omega)]
    refine ⟨fun z => ⟨fun _ => no ?_, fun y => absurd nI_0 y⟩, fun z => ⟨fun y => absurd y i1_ne0, fun _ => yes ?_⟩⟩
    · unfold lkP; rw [if_pos q, decide_eq_false_iff_not]; omega
    · unfold lkP; rw [if_pos q, decide_eq_true_iff]; omega
/-- the row says span sp already; the rest is as before -/
theorem l_145 {sp : Nat} {P : AH → Prop} (hw : zWF h) (hC : LN h (ns s.f s.w s.E sp s.hv s.mv s.cr s.rb s.ch)) (hsp : sp ≤ 1600) (hP : ∀ h', zWF h' → LN h' (rebS s sp) → lwf h h' → P h') : zQ none m_L_change (d + 2 + 1) 145 [(0, .ref 53), (1, .ref 54), (2, .ref 55)] [] h (kV P) := by
  obtain ⟨e1, e3, e4, e5, e6, e7, e8, e9⟩ := id hC
  have hb := bnd_le sp
  refine r_L_change_145 hw ⟨w3, w3, fun h3 q3 => ⟨o0, fun h5 q5 => ?_⟩⟩
  rw [k3, e8, show (ns s.f s.w s.E sp s.hv s.mv s.cr s.rb s.ch).rb = s.rb from rfl, nI_add] at q3
  rw [k0] at q5
  have pass : ∀ i, i ≤ 40 → ∀ h', zWF h' → LN h' (ns s.f s.w s.E sp (mk (fun v => decide (bnd sp ≤ pc (s.f v))) i) s.mv s.cr (s.rb + 1) s.ch) → lwf h h' → zQ none m_L_change (d + 2 + 1) 159 [(0, .ref 53), (1, .ref 54), (2, .ref 55), (8, .int (nI i))] [] h' (kV P) := by
    refine nat_down ?_ (fun i hi ih => ?_)
    · intro h' hw' hC' hf
      exact r_L_change_159 _ hw' ⟨fun _ => mk_kV hw' (hP h' hw' hC' hf), fun q => absurd e40 q⟩
    · intro h' hw' hC' hf
      obtain ⟨a1, a3, a4, a5, a6, a7, a8, a9⟩ := id hC'
      have hp := pc_le (s.f i)
      have a1' : h'.L 53 = s.f := a1
      have a5' : h'.L 55 0 = mk (fun v => decide (bnd sp ≤ pc (s.f v))) i := a5
      refine r_L_change_159 _ hw' ⟨fun q => absurd q (n40 hi), fun _ => ⟨o0, vi40 hi, use_pI (l_bits _ hw') (use_pI (l_bound (sp := sp) hw' a4 hsp) ?_)⟩⟩
      rw [cl40 hi, a1', nI_ltE (by omega) (by omega), nI_add, k0]
      refine ⟨fun q => ⟨o0, fun h8 q8 => ih h8 (wf_L q8 hw') ?_ (lwf_tr hf (lwf_L q8 (by decide)))⟩, fun q => ⟨o0, fun h4 q4 => ih h4 (wf_L q4 hw') ?_ (lwf_tr hf (lwf_L q4 (by decide)))⟩⟩
      · have e : mk (fun v => decide (bnd sp ≤ pc (s.f v))) (i + 1) = mk (fun v => decide (bnd sp ≤ pc (s.f v))) i := if_neg (by rw [decide_eq_true_iff]; omega)
        rw [a5', Int64.or_zero] at q8
        rw [e]
        have e55 : h8.L 55 0 = mk (fun v => decide (bnd sp ≤ pc (s.f v))) i := by rw [q8]; rfl
        subst q8
        exact ⟨a1, a3, a4, e55, a6, a7, a8, a9⟩
      · have e : mk (fun v => decide (bnd sp ≤ pc (s.f v))) (i + 1) = mk (fun v => decide (bnd sp ≤ pc (s.f v))) i ||| one i := if_pos (by rw [decide_eq_true_iff]; omega)
        rw [a5'] at q4
        rw [e]
        have e55 : h4.L 55 0 = mk (fun v => decide (bnd sp ≤ pc (s.f v))) i ||| one i := by rw [q4]; rfl
        subst q4
        exact ⟨a1, a3, a4, e55, a6, a7, a8, a9⟩
  have e55 : h5.L 55 0 = 0 := by rw [q5]; rfl
  refine pass 0 (Nat.zero_le _) h5 (wf_L q5 (wf_I q3 hw)) ?_ (lwf_tr (lwf_I q3) (lwf_L q5 (by decide)))
  subst q5 q3
  exact ⟨e1, e3, e4, e55, e6, e7, rfl, e9⟩
theorem l_203 {u v : Nat} {P : AH → Prop} (hw : zWF h) (hC : LN h s) (hsp : s.sp ≤ 1600) (hu : u < 40) (hv : v < 40) (huv : u ≠ v) (hP : ∀ h', zWF h' → LN h' (look (look s (min u v)) (max u v)) → lwf h h' → P h') : zQ none m_L_change (d + 2 + 1) 203 [(0, .ref 53), (1, .ref 54), (2, .ref 55), (3, .int (nI u)), (4, .int (nI v))] [] h (kV P) := by
  have sp2 : ∀ a, (look s a).sp ≤ 1600 := fun a => by unfold look; split <;> exact hsp
  have fin : ∀ {a b : Nat}, a < 40 → b < 40 → a = min u v → b = max u v → zK (d + 2) m_L_looks [.ref 53, .ref 54, .ref 55, .int (nI a)] h (kV fun h2 => zK (d + 2) m_L_looks [.ref 53, .ref 54, .ref 55, .int (nI b)] h2 (kV fun h4 => kV P none h4)) := by
    intro a b ha hb ea eb
    refine use_kV (l_looks hw hC ha hsp) (fun h2 hw2 ⟨a1, a2⟩ => use_kV (l_looks hw2 a1 hb (sp2 _)) (fun h4 hw4 ⟨b1, b2⟩ => mk_kV hw4 (hP h4 hw4 (ea ▸ eb ▸ b1) (lwf_tr a2 b2))))
  refine r_L_change_203 (nI u) (nI v) hw ?_
  rw [nI_leE (by omega) (by omega)]
  refine ⟨fun q => ?_, fun q => ?_⟩
  · exact use_kV (fin (a := v) (b := u) hv hu (by omega) (by omega)) (fun h2 hw2 k => ⟨fun _ => k, fun z => absurd q z⟩)
  · exact use_kV (fin (a := u) (b := v) hu hv (by omega) (by omega)) (fun h2 hw2 k => ⟨fun z => absurd z q, fun _ => k⟩)
theorem l_come {u v : Nat} {x : Int32} (hw : zWF h) (hC : LN h s) (hu : u < 40) (hv : v < 40) (huv : u ≠ v) (hg : gb (s.f u) v = false) (hE : s.E + 1 ≤ 780) (hsp : s.sp ≤ 1560) : zK (d + 3) m_L_change [.ref 53, .ref 54, .ref 55, .int (nI u), .int (nI v)] h (kV (fun h' => LN h' (comeS s u v x) ∧ lwf h h')) := by
  obtain ⟨e1, e3, e4, e5, e6, e7, e8, e9⟩ := id hC
  refine r_L_change_0 (nI u) (nI v) hw ⟨vi40 hu, vi40 hu, fun h3 q3 => ⟨vi40 hv, vi40 hv, fun h6 q6 => ⟨vi40 hu, ?_⟩⟩⟩
  rw [cl40 hu, e1] at q3
  change h3 = h.sL 53 u (s.f u ^^^ one v) at q3
  have f3 : h3.L 53 = va_up s.f u (s.f u ^^^ one v) := by rw [q3, AH.sL_L, e1]
  rw [cl40 hv, f3, va_up_ne _ _ (fun q => huv q.symm)] at q6
  change h6 = h3.sL 53 v (s.f v ^^^ one u) at q6
  have f6 : h6.L 53 = flip s.f u v := by rw [q6, AH.sL_L, f3]; rfl
  have hw6 : zWF h6 := wf_L q6 (wf_L q3 hw)
  rw [cl40 hu, f6]
  refine use_pI (l_has hw6 (by omega)) ?_
  have hb : gb (flip s.f u v u) v = true := by
    rw [gb_flip huv (by omega) (by omega), hg, decide_eq_true (Or.inl ⟨rfl, rfl⟩)]; rfl
  rw [hb]
  refine r_L_change_30 _ _ _ hw6 ⟨w5, fun q => absurd q bt0, fun _ => ⟨w5, fun h26 q26 => ?_⟩⟩
  have z5 : h6.I 54 5 = nI s.E := by rw [q6, q3]; exact e3
  rw [k5, z5, nI_add] at q26
  have hw26 : zWF h26 := wf_I q26 hw6
  refine r_L_change_46 _ _ _ hw26 ⟨w4, w4, fun h29 q29 => ⟨fun q => absurd q bt0, fun _ => ⟨w5, w0, ?_⟩⟩⟩
  have z4 : h26.I 54 4 = nI s.ch := by rw [q26, q6, q3]; exact e9
  rw [k4, z4, nI_add] at q29
  have hw29 : zWF h29 := wf_I q29 hw26
  have fr : lwf h h29 := lwf_tr (lwf_L q3 (by decide)) (lwf_tr (lwf_L q6 (by decide)) (lwf_tr (lwf_I q26) (lwf_I q29)))
  have hC29 : LN h29 (ns (flip s.f u v) (va_up s.w (pr u v) x) (s.E + 1) s.sp s.hv s.mv s.cr s.rb (s.ch + 1)) := by
    refine ⟨by rw [q29, q26]; exact f6, by rw [q29, q26]; rfl, by rw [q29, q26, q6, q3]; exact e4, by rw [q29, q26, q6, q3]; exact e5, by rw [q29, q26, q6, q3]; exact e6, by rw [q29, q26, q6, q3]; exact e7, by rw [q29, q26, q6, q3]; exact e8, by rw [q29]; rfl⟩
  have y5 : h29.I 54 5 = nI (s.E + 1) := hC29.2.1
  have y0 : h29.I 54 0 = nI s.sp := hC29.2.2.1
  rw [k5, k0, y5, y0]
  refine ⟨fun q => ?_, fun q => ?_⟩
  · have hne : ¬ s.E + 1 = s.sp := fun z => q (by rw [z])
    refine r_L_change_74 _ _ _ _ hw29 ⟨fun _ => ?_, fun q => absurd q bt0⟩
    refine r_L_change_97 _ _ _ _ hw29 ⟨fun q => absurd rfl q, fun _ => ⟨fun _ => ?_, fun q => absurd rfl q⟩⟩
    refine l_203 hw29 hC29 (show s.sp ≤ 1600 by omega) hu hv huv (fun h' hw' a1 a2 => ⟨?_, lwf_tr fr a2⟩)
    unfold comeS
    rw [if_neg hne]
    exact a1
  · have heq : s.E + 1 = s.sp := (nI_eqE (by omega) (by omega)).mp q
    refine r_L_change_74 _ _ _ _ hw29 ⟨fun _ => ?_, fun q => absurd q bt0⟩
    refine r_L_change_97 _ _ _ _ hw29 ⟨fun _ => ?_, fun q => absurd q i1_ne0⟩
    refine r_L_change_107 _ hw29 ⟨fun q => absurd q i1_ne0, fun _ => ⟨w0, w0, fun h36 q36 => ?_⟩⟩
    rw [k0, y0, nI_mulE] at q36
    have hC36 : LN h36 (ns (flip s.f u v) (va_up s.w (pr u v) x) (s.E + 1) (2 * s.sp) s.hv s.mv s.cr s.rb (s.ch + 1)) := by
      obtain ⟨a1, a3, a4, a5, a6, a7, a8, a9⟩ := hC29
      subst q36
      exact ⟨a1, a3, rfl, a5, a6, a7, a8, a9⟩
    refine l_145 (s := ns (flip s.f u v) (va_up s.w (pr u v) x) (s.E + 1) s.sp s.hv s.mv s.cr s.rb (s.ch + 1)) (wf_I q36 hw29) hC36 (show 2 * s.sp ≤ 1600 by omega) (fun h' hw' a1 a2 => ⟨?_, lwf_tr fr (lwf_tr (lwf_I q36) a2)⟩)
    unfold comeS
    rw [if_pos heq, Nat.mul_comm s.sp 2]
    exact a1
theorem l_go {u v : Nat} (hw : zWF h) (hC : LN h s) (hG : GF s.f) (hu : u < 40) (hv : v < 40) (huv : u ≠ v) (hg : gb (s.f u) v = true) (hE0 : 1 ≤ s.E) (hE : s.E ≤ 780) (hsp : s.sp ≤ 1560) : zK (d + 3) m_L_change [.ref 53, .ref 54, .ref 55, .int (nI u), .int (nI v)] h (kV (fun h' => LN h' (goS s u v) ∧ lwf h h')) := by
  obtain ⟨e1, e3, e4, e5, e6, e7, e8, e9⟩ := id hC
  refine r_L_change_0 (nI u) (nI v) hw ⟨vi40 hu, vi40 hu, fun h3 q3 => ⟨vi40 hv, vi40 hv, fun h6 q6 => ⟨vi40 hu, ?_⟩⟩⟩
  rw [cl40 hu, e1] at q3
  change h3 = h.sL 53 u (s.f u ^^^ one v) at q3
  have f3 : h3.L 53 = va_up s.f u (s.f u ^^^ one v) := by rw [q3, AH.sL_L, e1]
  rw [cl40 hv, f3, va_up_ne _ _ (fun q => huv q.symm)] at q6
  change h6 = h3.sL 53 v (s.f v ^^^ one u) at q6
  have f6 : h6.L 53 = flip s.f u v := by rw [q6, AH.sL_L, f3]; rfl
  have hw6 : zWF h6 := wf_L q6 (wf_L q3 hw)
  rw [cl40 hu, f6]
  refine use_pI (l_has hw6 (by omega)) ?_
  have hb : gb (flip s.f u v u) v = false := by
    rw [gb_flip huv (by omega) (by omega), hg, decide_eq_true (Or.inl ⟨rfl, rfl⟩)]; rfl
  rw [hb]
  refine r_L_change_30 _ _ _ hw6 ⟨w5, fun _ => ⟨w5, fun h26 q26 => ?_⟩, fun q => absurd bf0 q⟩
  have z5 : h6.I 54 5 = nI s.E := by rw [q6, q3]; exact e3
  rw [k5, z5, show nI s.E + (-1) = nI (s.E - 1) by rw [← nI_subE hE0, Int32.sub_eq_add_neg]; rfl] at q26
  have hw26 : zWF h26 := wf_I q26 hw6
  refine r_L_change_46 _ _ _ hw26 ⟨w4, w4, fun h29 q29 => ⟨fun _ => ?_, fun q => absurd bf0 q⟩⟩
  have z4 : h26.I 54 4 = nI s.ch := by rw [q26, q6, q3]; exact e9
  rw [k4, z4, nI_add] at q29
  have hw29 : zWF h29 := wf_I q29 hw26
  have fr : lwf h h29 := lwf_tr (lwf_L q3 (by decide)) (lwf_tr (lwf_L q6 (by decide)) (lwf_tr (lwf_I q26) (lwf_I q29)))
  have hC29 : LN h29 (ns (flip s.f u v) s.w (s.E - 1) s.sp s.hv s.mv s.cr s.rb (s.ch + 1)) := by
    refine ⟨by rw [q29, q26]; exact f6, by rw [q29, q26]; rfl, by rw [q29, q26, q6, q3]; exact e4, by rw [q29, q26, q6, q3]; exact e5, by rw [q29, q26, q6, q3]; exact e6, by rw [q29, q26, q6, q3]; exact e7, by rw [q29, q26, q6, q3]; exact e8, by rw [q29]; rfl⟩
  have y5 : h29.I 54 5 = nI (s.E - 1) := hC29.2.1
  have y0 : h29.I 54 0 = nI s.sp := hC29.2.2.1
  refine r_L_change_74 _ _ _ _ hw29 ⟨fun q => absurd bf0 q, fun _ => ⟨w5, w0, ?_⟩⟩
  rw [k5, k0, y5, y0, nI_divE (by omega) (by decide) (by decide), nI_leE (by omega) (by omega)]
  refine ⟨fun q => ?_, fun q => ?_⟩
  · have hne : ¬ s.E - 1 < s.sp / 4 := by omega
    refine r_L_change_97 _ _ _ _ hw29 ⟨fun q => absurd rfl q, fun _ => ⟨fun _ => ?_, fun q => absurd rfl q⟩⟩
    refine l_203 hw29 hC29 (show s.sp ≤ 1600 by omega) hu hv huv (fun h' hw' a1 a2 => ⟨?_, lwf_tr fr a2⟩)
    unfold goS
    rw [if_neg hne]
    exact a1
  · have heq : s.E - 1 < s.sp / 4 := by omega
    refine r_L_change_97 _ _ _ _ hw29 ⟨fun q => absurd rfl q, fun _ => ⟨fun q => absurd q i1_ne0, fun _ => ?_⟩⟩
    refine r_L_change_107 _ hw29 ⟨fun _ => ⟨w0, ?_⟩, fun q => absurd rfl q⟩
    rw [k0, y0, nI_divE (by omega) (by decide) (by decide), nI_subE (by omega), nI_leE (by decide) (by omega)]
    refine ⟨fun _ => ⟨w0, w0, fun h36 q36 => ?_⟩, fun q => absurd (show 1 ≤ s.sp / 2 - 1 by omega) q⟩
    have hC36 : LN h36 (ns (flip s.f u v) s.w (s.E - 1) (s.sp / 2 - 1) s.hv s.mv s.cr s.rb (s.ch + 1)) := by
      obtain ⟨a1, a3, a4, a5, a6, a7, a8, a9⟩ := hC29
      subst q36
      exact ⟨a1, a3, rfl, a5, a6, a7, a8, a9⟩
    refine l_145 (s := ns (flip s.f u v) s.w (s.E - 1) s.sp s.hv s.mv s.cr s.rb (s.ch + 1)) (wf_I q36 hw29) hC36 (show s.sp / 2 - 1 ≤ 1600 by omega) (fun h' hw' a1 a2 => ⟨?_, lwf_tr fr (lwf_tr (lwf_I q36) a2)⟩)
    unfold goS
    rw [if_pos heq, show max 1 (s.sp / 2 - 1) = s.sp / 2 - 1 by omega]
    exact a1
end LAW2
