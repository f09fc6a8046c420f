/-! the reference's net -/
def mfr (h h' : AH) : Prop := frm [54, 55] [53, 58] h h' ∧ (∀ j, j ≠ 6 → h'.L 53 j = h.L 53 j) ∧ ∀ j, 6 ≤ j → h'.I 54 j = h.I 54 j
theorem mfr_rf {h : AH} : mfr h h := ⟨frm_rf, fun _ _ => rfl, fun _ _ => rfl⟩
theorem mfr_tr {h h1 h2 : AH} (a : mfr h h1) (b : mfr h1 h2) : mfr h h2 := ⟨frm_tr a.1 b.1, fun j q => (b.2.1 j q).trans (a.2.1 j q), fun j q => (b.2.2 j q).trans (a.2.2 j q)⟩
theorem mfr_54 {h h' : AH} {j : Nat} {x : Int32} (e : h' = h.sI 54 j x) (hj : j < 6) : mfr h h' :=
  ⟨frm_wI e (by decide), fun _ _ => by rw [e]; rfl, fun i hi => by rw [e, AH.sI_I, va_up_ne _ _ (by omega)]⟩
theorem mfr_55 {h h' : AH} {j : Nat} {x : Int32} (e : h' = h.sI 55 j x) : mfr h h' :=
  ⟨frm_wI e (by decide), fun _ _ => by rw [e]; rfl, fun i hi => by rw [e]; rfl⟩
theorem mfr_53 {h h' : AH} {x : Int64} (e : h' = h.sL 53 6 x) : mfr h h' :=
  ⟨frm_wL e (by decide), fun i hi => by rw [e, AH.sL_L, va_up_ne _ _ hi], fun i hi => by rw [e]; rfl⟩
theorem mfr_58 {h h' : AH} {j : Nat} {x : Int64} (e : h' = h.sL 58 j x) : mfr h h' :=
  ⟨frm_wL e (by decide), fun i hi => by rw [e]; rfl, fun i hi => by rw [e]; rfl⟩
theorem k0 : (nI 0).toNatClampNeg = 0 := by decide
theorem k1 : (nI 1).toNatClampNeg = 1 := by decide
theorem k2 : (nI 2).toNatClampNeg = 2 := by decide
theorem k3 : (nI 3).toNatClampNeg = 3 := by decide
theorem k4 : (nI 4).toNatClampNeg = 4 := by decide
theorem k5 : (nI 5).toNatClampNeg = 5 := by decide
theorem k6 : (nI 6).toNatClampNeg = 6 := by decide
theorem v0 : vp_in (nI 0) 187 := vp_in_nI (by decide) (by decide)
theorem v1 : vp_in (nI 1) 187 := vp_in_nI (by decide) (by decide)
theorem v2 : vp_in (nI 2) 187 := vp_in_nI (by decide) (by decide)
theorem v3 : vp_in (nI 3) 187 := vp_in_nI (by decide) (by decide)
theorem v4 : vp_in (nI 4) 187 := vp_in_nI (by decide) (by decide)
theorem v5 : vp_in (nI 5) 187 := vp_in_nI (by decide) (by decide)
theorem v6 : vp_in (nI 6) 187 := vp_in_nI (by decide) (by decide)
section MNET
variable {d : Nat} {h : AH} {s : NS}
theorem m_edge {u v : Nat} (hu : u < 40) (hv : v < 40) : zK (d + 1) m_X11_edge [.int (nI u), .int (nI v)] h (pI h (fun x => x = nI (pr u v))) := by
  refine r_X11_edge_0 (nI u) (nI v) ⟨fun q => mk_pI ?_, fun q => mk_pI ?_⟩ <;> rw [nI_leE (by omega) (by omega)] at q <;> rw [nI_mulE, nI_add] <;> unfold pr <;> congr 1 <;> omega
theorem m_bound {sp : Nat} (hw : zWF h) (hs : h.I 54 0 = nI sp) (hsp : sp ≤ 1600) : zK (d + 1) m_X11_bound [.ref 53] h (pI h (fun x => x = nI (bnd sp))) := by
  refine r_X11_bound_0 hw ?_
  have key : ∀ n t, n + t = 40 → zQ none m_X11_bound (d + 1) 2 [(0, .ref 53), (1, .int (nI t))] [] h (pI h (fun x => x = nI (bl sp n t))) := by
    intro n
    induction n with
    | zero =>
      intro t ht
      rw [Nat.zero_add] at ht
      subst ht
      refine r_X11_bound_2 _ hw ⟨v0, fun _ => mk_pI rfl, fun q => absurd ?_ q⟩
      rw [k0, hs, nI_mulE, nI_leE (by omega) (by decide)]
      omega
    | succ n ih =>
      intro t ht
      have htt : t * t < 1600 := Nat.lt_of_le_of_lt (Nat.mul_le_mul (show t ≤ 39 by omega) (show t ≤ 39 by omega)) (by decide)
      refine r_X11_bound_2 _ hw ?_
      rw [k0, hs, nI_mulE, nI_leE (by omega) (by omega), nI_add]
      refine ⟨v0, fun q => mk_pI (congrArg nI (if_pos q)).symm, fun q => ?_⟩
      have e : bl sp (n + 1) t = bl sp n (t + 1) := if_neg q
      rw [e]
      exact ih (t + 1) (by omega)
  exact key 39 1 rfl
theorem m_looksAt {v : Nat} (hw : zWF h) (hC : MN h s) (hv : v < 40) (hsp : s.sp ≤ 1600) : zK (d + 3) m_X11_looksAt [.ref 53, .int (nI v)] h (kV (fun h' => MN h' (look s v) ∧ mfr h h')) := by
  obtain ⟨e1, e2, e3, e4, e5, e6, e7, e8, e9⟩ := id hC
  have hb := bnd_le s.sp
  have hp := pc_le (s.f v)
  have no : lkP s.f s.hv s.sp v = false → kV (fun h' => MN h' (look s v) ∧ mfr h h') none h := fun z =>
    mk_kV hw ⟨by rw [look, if_neg (by rw [z]; decide)]; exact hC, mfr_rf⟩
  have yes : lkP s.f s.hv s.sp v = true → ∀ h7, h7 = h.sL 53 6 (s.hv ^^^ ((1 : Int64) <<< ((nI v).toInt64 &&& 63))) → vp_in (nI 1) 187 ∧ (vp_in (nI 1) 187 ∧ (∀ h10, h10 = h7.sI 54 (nI 1).toNatClampNeg ((h7.I 54 (nI 1).toNatClampNeg) + (nI 1)) → vp_in (nI 2) 187 ∧ (zK (d + 2) m_X11_degree [.ref 53, .int (nI v)] h10 (pI h10 fun x12 => vp_in (nI 2) 187 ∧ (∀ h14, h14 = h10.sI 54 (nI 2).toNatClampNeg ((h10.I 54 (nI 2).toNatClampNeg) + x12) → kV (fun h' => MN h' (look s v) ∧ mfr h h') none h14))))) := by
    intro z h7 q7
    refine ⟨v1, v1, fun h10 q10 => ⟨v2, ?_⟩⟩
    have w1 : h7.I 54 1 = nI s.mv := by rw [q7]; exact e6
    rw [k1, w1, nI_add] at q10
    have hw10 : zWF h10 := wf_I q10 (wf_L q7 hw)
    refine use_pI (m_degree hw10 hv) ⟨v2, fun h14 q14 => ?_⟩
    have f10 : h10.L 58 = s.f := by rw [q10, q7]; exact e1
    have w2 : h10.I 54 2 = nI s.cr := by rw [q10, q7]; exact e7
    rw [f10, k2, w2, nI_add] at q14
    refine mk_kV (wf_I q14 hw10) ⟨?_, mfr_tr (mfr_53 q7) (mfr_tr (mfr_54 q10 (by decide)) (mfr_54 q14 (by decide)))⟩
    rw [look, if_pos z]
    subst q14 q10 q7
    exact ⟨e1, e2, e3, e4, rfl, rfl, rfl, e8, e9⟩
  refine r_X11_looksAt_0 (nI v) hw (use_pI (m_degree hw hv) (use_pI (c_has (by omega)) ?_))
  rw [e5, e1]
  refine ⟨fun q => use_pI (m_bound hw e4 hsp) ?_, fun q => use_pI (m_bound hw e4 hsp) ?_⟩
  · have q := (b2 _).mp q
    rw [nI_mulE, nI_mulE, nI_ltE (by omega) (by omega)]
    refine ⟨fun z => ⟨fun y => absurd nI_0 y, fun _ => no ?_⟩, fun z => ⟨fun _ => yes ?_, fun y => absurd y i1_ne0⟩⟩
    · unfold lkP; rw [if_neg (by rw [q]; decide), decide_eq_false_iff_not]; omega
    · unfold lkP; rw [if_neg (by rw [q]; decide), decide_eq_true_iff]; omega
  · have q : gb s.hv v = true := by
      cases hc : gb s.hv v with
      | true => rfl
      | false => exact absurd ((b2 _).mpr hc) q
    rw [nI_mulE, nI_leE (by omega) (by omega)]
    refine ⟨fun z => ⟨fun y => absurd nI_0 y, fun _ => no ?_⟩, fun z => ⟨fun _ => yes ?_, fun y => absurd y i1_ne0⟩⟩
    · unfold lkP; rw [if_pos q, decide_eq_false_iff_not]; omega
    · unfold lkP; rw [if_pos q, decide_eq_true_iff]; omega
/-- the row says span sp already; the rest is as before -/
theorem m_rebases {sp : Nat} (hw : zWF h) (hC : MN h (ns s.f s.w s.E sp s.hv s.mv s.cr s.rb s.ch)) (hsp : sp ≤ 1600) : zK (d + 3) m_X11_rebases [.ref 53] h (kV (fun h' => MN h' (rebS s sp) ∧ mfr h h')) := by
  obtain ⟨e1, e2, e3, e4, e5, e6, e7, e8, e9⟩ := id hC
  have hb := bnd_le sp
  refine r_X11_rebases_0 hw (fun h1 q1 => ?_)
  have pass : ∀ i, i ≤ 40 → ∀ h', zWF h' → MN h' (ns s.f s.w s.E sp (mk (fun v => decide (bnd sp ≤ pc (s.f v))) i) s.mv s.cr s.rb s.ch) → mfr h h' → zQ none m_X11_rebases (d + 2 + 1) 7 [(0, .ref 53), (1, .int (nI i))] [] h' (kV (fun h' => MN h' (rebS s sp) ∧ mfr h h')) := by
    refine nat_down ?_ (fun i hi ih => ?_)
    · intro h' hw' hC' hf
      obtain ⟨a1, a2, a3, a4, a5, a6, a7, a8, a9⟩ := id hC'
      refine r_X11_rebases_7 _ hw' ⟨fun _ => ⟨v3, v3, fun h4 q4 => ?_⟩, fun q => absurd e40 q⟩
      have w3 : h'.I 54 3 = nI s.rb := a8
      rw [k3, w3, nI_add] at q4
      refine mk_kV (wf_I q4 hw') ⟨?_, mfr_tr hf (mfr_54 q4 (by decide))⟩
      subst q4
      exact ⟨a1, a2, a3, a4, a5, a6, a7, rfl, a9⟩
    · intro h' hw' hC' hf
      obtain ⟨a1, a2, a3, a4, a5, a6, a7, a8, a9⟩ := id hC'
      have hp := pc_le (s.f i)
      have a1' : h'.L 58 = s.f := a1
      have a5' : h'.L 53 6 = mk (fun v => decide (bnd sp ≤ pc (s.f v))) i := a5
      refine r_X11_rebases_7 _ hw' ⟨fun q => absurd q (n40 hi), fun _ => use_pI (m_degree hw' hi) (use_pI (m_bound (sp := sp) hw' a4 hsp) ?_)⟩
      rw [a1', nI_ltE (by omega) (by omega), nI_add]
      refine ⟨fun q h8 q8 => ih h8 (wf_L q8 hw') ?_ (mfr_tr hf (mfr_53 q8)), fun q h4 q4 => ih h4 (wf_L q4 hw') ?_ (mfr_tr hf (mfr_53 q4))⟩
      · have e : mk (fun v => decide (bnd sp ≤ pc (s.f v))) (i + 1) = mk (fun v => decide (bnd sp ≤ pc (s.f v))) i := if_neg (by rw [decide_eq_true_iff]; omega)
        rw [a5', Int64.or_zero] at q8
        rw [e]
        subst q8
        exact ⟨a1, a2, a3, a4, rfl, a6, a7, a8, a9⟩
      · have e : mk (fun v => decide (bnd sp ≤ pc (s.f v))) (i + 1) = mk (fun v => decide (bnd sp ≤ pc (s.f v))) i ||| one i := if_pos (by rw [decide_eq_true_iff]; omega)
        rw [a5'] at q4
        rw [e]
        subst q4
        exact ⟨a1, a2, a3, a4, rfl, a6, a7, a8, a9⟩
  refine pass 0 (Nat.zero_le _) h1 (wf_L q1 hw) ?_ (mfr_53 q1)
  subst q1
  exact ⟨e1, e2, e3, e4, rfl, e6, e7, e8, e9⟩
theorem m_changesEnd (hw : zWF h) (hC : MN h s) (hsp : s.sp ≤ 1600) {u v : Nat} (hu : u < 40) (hv : v < 40) (huv : u ≠ v) {P : AH → Prop} (hP : ∀ h', zWF h' → MN h' (look (look s (min u v)) (max u v)) → mfr h h' → P h') : zQ none m_X11_changes (d + 3 + 1) 161 [(0, .ref 53), (1, .int (nI u)), (2, .int (nI v))] [] h (kV P) := by
  have sp2 : ∀ a, (look s a).sp ≤ 1600 := fun a => by unfold look; split <;> exact hsp
  have fin : ∀ {a b : Nat}, a < 40 → b < 40 → a = min u v → b = max u v → zK (d + 3) m_X11_looksAt [.ref 53, .int (nI a)] h (kV fun h2 => zK (d + 3) m_X11_looksAt [.ref 53, .int (nI b)] h2 (kV fun h4 => zQ none m_X11_changes (d + 3 + 1) 189 [] [] h4 (kV P))) := by
    intro a b ha hb ea eb
    refine use_kV (m_looksAt hw hC ha hsp) (fun h2 hw2 ⟨a1, a2⟩ => use_kV (m_looksAt hw2 a1 hb (sp2 _)) (fun h4 hw4 ⟨b1, b2⟩ => r_X11_changes_189 hw4 (mk_kV hw4 (hP h4 hw4 (ea ▸ eb ▸ b1) (mfr_tr a2 b2)))))
  refine r_X11_changes_161 (nI u) (nI v) hw ?_
  rw [nI_leE (by omega) (by omega)]
  refine ⟨fun q => ?_, fun q => ?_⟩
  · exact zK_mono (fin (a := v) (b := u) hv hu (by omega) (by omega)) (fun r h' ⟨x1, x2, x3⟩ => ⟨x1, x2, fun _ => x3, fun z => absurd q z⟩)
  · exact zK_mono (fin (a := u) (b := v) hu hv (by omega) (by omega)) (fun r h' ⟨x1, x2, x3⟩ => ⟨x1, x2, fun z => absurd z q, fun _ => x3⟩)
theorem w_flip3 {f : Nat → Int64} {I w : Nat → Int32} {u v : Nat} {x : Int32} (huv : u ≠ v) (hu : u < 40) (hv : v < 40) (hg0 : gb (f u) v = true) (hs : ∀ a b, gb (f a) b = gb (f b) a) (h : ∀ a b, a < 40 → b < 40 → gb (f a) b = true → I (pr a b) = w (pr a b)) : ∀ a b, a < 40 → b < 40 → gb (flip f u v a) b = true → va_up I (pr u v) x (pr a b) = w (pr a b) := by
  intro a b ha hb hg
  rw [va_up_ne _ _ ?_]
  · exact w_flip2 huv hu hv hg0 hs h a b ha hb hg
  · intro e
    rw [gb_flip huv (by omega) (by omega)] at hg
    rcases pr_inj ha hb hu hv e with ⟨rfl, rfl⟩ | ⟨rfl, rfl⟩
    · rw [hg0, decide_eq_true (Or.inl ⟨rfl, rfl⟩)] at hg
      exact absurd hg (by decide)
    · rw [hs, hg0, decide_eq_true (Or.inr ⟨rfl, rfl⟩)] at hg
      exact absurd hg (by decide)
theorem m_come {u v : Nat} {x : Int32} (hw : zWF h) (hC : MN h s) (hu : u < 40) (hv : v < 40) (huv : u ≠ v) (hE : s.E + 1 ≤ 780) (hsp : s.sp ≤ 1560) : zK (d + 4) m_X11_changes [.ref 53, .int (nI u), .int (nI v), .int (nI 1), .int x] h (kV (fun h' => MN h' (comeS s u v x) ∧ mfr h h')) := by
  obtain ⟨e1, e2, e3, e4, e5, e6, e7, e8, e9⟩ := id hC
  refine r_X11_changes_0 (nI u) (nI v) (nI 1) x hw ⟨vi40 hu, vi40 hu, fun h3 q3 => ⟨vi40 hv, vi40 hv, fun h6 q6 => use_pI (m_edge hu hv) ⟨vp_in_nI (pr_lt hu hv) (by decide), fun h9 q9 => ⟨v5, fun q => absurd q i1_ne0, fun _ => ⟨v5, fun h26 q26 => ⟨v4, v4, fun h29 q29 => ⟨fun q => absurd q i1_ne0, fun _ => ⟨v5, v0, ?_⟩⟩⟩⟩⟩⟩⟩⟩
  rw [cl40 hu, e1] at q3
  change h3 = h.sL 58 u (s.f u ^^^ one v) at q3
  have f3 : h3.L 58 = va_up s.f u (s.f u ^^^ one v) := by rw [q3, AH.sL_L, e1]
  rw [cl40 hv, f3, va_up_ne _ _ (fun q => huv q.symm)] at q6
  change h6 = h3.sL 58 v (s.f v ^^^ one u) at q6
  have f6 : h6.L 58 = flip s.f u v := by rw [q6, AH.sL_L, f3]; rfl
  rw [cl_n (pr_lt hu hv) (by decide)] at q9
  have w5 : h9.I 54 5 = nI s.E := by rw [q9, q6, q3]; exact e3
  rw [k5, w5, nI_add] at q26
  have w4 : h26.I 54 4 = nI s.ch := by rw [q26, q9, q6, q3]; exact e9
  rw [k4, w4, nI_add] at q29
  have hw29 : zWF h29 := wf_I q29 (wf_I q26 (wf_I q9 (wf_L q6 (wf_L q3 hw))))
  have fr : mfr h h29 := mfr_tr (mfr_58 q3) (mfr_tr (mfr_58 q6) (mfr_tr (mfr_55 q9) (mfr_tr (mfr_54 q26 (by decide)) (mfr_54 q29 (by decide)))))
  have hC29 : MN h29 (ns (flip s.f u v) (va_up s.w (pr u v) x) (s.E + 1) s.sp s.hv s.mv s.cr s.rb (s.ch + 1)) := by
    refine ⟨by rw [q29, q26, q9]; exact f6, ?_, by rw [q29, q26]; rfl, by rw [q29, q26, q9, q6, q3]; exact e4, by rw [q29, q26, q9, q6, q3]; exact e5, by rw [q29, q26, q9, q6, q3]; exact e6, by rw [q29, q26, q9, q6, q3]; exact e7, by rw [q29, q26, q9, q6, q3]; exact e8, by rw [q29]; rfl⟩
    have i4 : h29.I 55 = va_up (h.I 55) (pr u v) x := by rw [q29, q26, q9, q6, q3]; rfl
    rw [i4]
    exact w_flip huv hu hv e2
  have z5 : h29.I 54 5 = nI (s.E + 1) := hC29.2.2.1
  have z0 : h29.I 54 0 = nI s.sp := hC29.2.2.2.1
  rw [k5, k0, z5, z0]
  refine ⟨fun q => ?_, fun q => ⟨v0, v0, fun h36 q36 => ?_⟩⟩
  · have hne : ¬ s.E + 1 = s.sp := fun z => q (by rw [z])
    refine r_X11_changes_100 _ _ _ hw29 ⟨fun _ => ?_, fun q => absurd q i1_ne0⟩
    refine m_changesEnd hw29 hC29 (show s.sp ≤ 1600 by omega) hu hv huv (fun h' hw' a1 a2 => ⟨?_, mfr_tr fr a2⟩)
    unfold comeS
    rw [if_neg hne]
    exact a1
  · have heq : s.E + 1 = s.sp := (nI_eqE (by omega) (by omega)).mp q
    rw [nI_mulE] at q36
    have hC36 : MN h36 (ns (flip s.f u v) (va_up s.w (pr u v) x) (s.E + 1) (s.sp * 2) s.hv s.mv s.cr s.rb (s.ch + 1)) := by
      obtain ⟨a1, a2, a3, a4, a5, a6, a7, a8, a9⟩ := hC29
      subst q36
      exact ⟨a1, a2, a3, rfl, a5, a6, a7, a8, a9⟩
    refine use_kV (m_rebases (s := ns (flip s.f u v) (va_up s.w (pr u v) x) (s.E + 1) s.sp s.hv s.mv s.cr s.rb (s.ch + 1)) (wf_I q36 hw29) hC36 (show s.sp * 2 ≤ 1600 by omega)) (fun h37 hw37 ⟨a1, a2⟩ => r_X11_changes_189 hw37 (mk_kV hw37 ⟨?_, mfr_tr fr (mfr_tr (mfr_54 q36 (by decide)) a2)⟩))
    unfold comeS
    rw [if_pos heq]
    exact a1
theorem m_go {u v : Nat} {x : Int32} (hw : zWF h) (hC : MN h s) (hG : GF s.f) (hu : u < 40) (hv : v < 40) (huv : u ≠ v) (hg : gb (s.f u) v = true) (hE0 : 1 ≤ s.E) (hE : s.E ≤ 780) (hsp : s.sp ≤ 1560) : zK (d + 4) m_X11_changes [.ref 53, .int (nI u), .int (nI v), .int (nI 0), .int x] h (kV (fun h' => MN h' (goS s u v) ∧ mfr h h')) := by
  obtain ⟨e1, e2, e3, e4, e5, e6, e7, e8, e9⟩ := id hC
  refine r_X11_changes_0 (nI u) (nI v) (nI 0) x hw ⟨vi40 hu, vi40 hu, fun h3 q3 => ⟨vi40 hv, vi40 hv, fun h6 q6 => use_pI (m_edge hu hv) ⟨vp_in_nI (pr_lt hu hv) (by decide), fun h9 q9 => ⟨v5, fun _ => ⟨v5, fun h26 q26 => ⟨v4, v4, fun h29 q29 => ⟨fun _ => ?_, fun q => absurd i0_eq0 q⟩⟩⟩, fun q => absurd i0_eq0 q⟩⟩⟩⟩
  rw [cl40 hu, e1] at q3
  change h3 = h.sL 58 u (s.f u ^^^ one v) at q3
  have f3 : h3.L 58 = va_up s.f u (s.f u ^^^ one v) := by rw [q3, AH.sL_L, e1]
  rw [cl40 hv, f3, va_up_ne _ _ (fun q => huv q.symm)] at q6
  change h6 = h3.sL 58 v (s.f v ^^^ one u) at q6
  have f6 : h6.L 58 = flip s.f u v := by rw [q6, AH.sL_L, f3]; rfl
  rw [cl_n (pr_lt hu hv) (by decide)] at q9
  have w5 : h9.I 54 5 = nI s.E := by rw [q9, q6, q3]; exact e3
  rw [k5, w5, show nI s.E + (-1) = nI (s.E - 1) by rw [← nI_subE hE0, Int32.sub_eq_add_neg]; rfl] at q26
  have w4 : h26.I 54 4 = nI s.ch := by rw [q26, q9, q6, q3]; exact e9
  rw [k4, w4, nI_add] at q29
  have hw29 : zWF h29 := wf_I q29 (wf_I q26 (wf_I q9 (wf_L q6 (wf_L q3 hw))))
  have fr : mfr h h29 := mfr_tr (mfr_58 q3) (mfr_tr (mfr_58 q6) (mfr_tr (mfr_55 q9) (mfr_tr (mfr_54 q26 (by decide)) (mfr_54 q29 (by decide)))))
  have hC29 : MN h29 (ns (flip s.f u v) s.w (s.E - 1) s.sp s.hv s.mv s.cr s.rb (s.ch + 1)) := by
    refine ⟨by rw [q29, q26, q9]; exact f6, ?_, by rw [q29, q26]; rfl, by rw [q29, q26, q9, q6, q3]; exact e4, by rw [q29, q26, q9, q6, q3]; exact e5, by rw [q29, q26, q9, q6, q3]; exact e6, by rw [q29, q26, q9, q6, q3]; exact e7, by rw [q29, q26, q9, q6, q3]; exact e8, by rw [q29]; rfl⟩
    have i4 : h29.I 55 = va_up (h.I 55) (pr u v) x := by rw [q29, q26, q9, q6, q3]; rfl
    rw [i4]
    exact w_flip3 huv hu hv hg hG.1 e2
  have z5 : h29.I 54 5 = nI (s.E - 1) := hC29.2.2.1
  have z0 : h29.I 54 0 = nI s.sp := hC29.2.2.2.1
  refine r_X11_changes_100 _ _ _ hw29 ⟨fun q => absurd i0_eq0 q, fun _ => ⟨v5, v0, ?_⟩⟩
  rw [k5, k0, z5, z0, nI_divE (by omega) (by decide) (by decide), nI_leE (by omega) (by omega)]
  refine ⟨fun q => ?_, fun q => ⟨v0, v0, fun h7 q7 => ?_⟩⟩
  · have hne : ¬ s.E - 1 < s.sp / 4 := by omega
    refine m_changesEnd hw29 hC29 (show s.sp ≤ 1600 by omega) hu hv huv (fun h' hw' a1 a2 => ⟨?_, mfr_tr fr a2⟩)
    unfold goS
    rw [if_neg hne]
    exact a1
  · have heq : s.E - 1 < s.sp / 4 := by omega
    rw [nI_divE (by omega) (by decide) (by decide), nI_subE (by omega)] at q7
    have y0 : h7.I 54 0 = nI (s.sp / 2 - 1) := by rw [q7]; rfl
    rw [y0, nI_leE (by decide) (by omega)]
    refine ⟨v0, fun _ => ?_, fun z => absurd (show 1 ≤ s.sp / 2 - 1 by omega) z⟩
    have hC7 : MN h7 (ns (flip s.f u v) s.w (s.E - 1) (s.sp / 2 - 1) s.hv s.mv s.cr s.rb (s.ch + 1)) := by
      obtain ⟨a1, a2, a3, a4, a5, a6, a7, a8, a9⟩ := hC29
      subst q7
      exact ⟨a1, a2, a3, rfl, a5, a6, a7, a8, a9⟩
    have hw7 : zWF h7 := wf_I q7 hw29
    refine r_X11_changes_154 hw7 (use_kV (m_rebases (s := ns (flip s.f u v) s.w (s.E - 1) s.sp s.hv s.mv s.cr s.rb (s.ch + 1)) hw7 hC7 (show s.sp / 2 - 1 ≤ 1600 by omega)) (fun h37 hw37 ⟨a1, a2⟩ => r_X11_changes_189 hw37 (mk_kV hw37 ⟨?_, mfr_tr fr (mfr_tr (mfr_54 q7 (by decide)) a2)⟩)))
    unfold goS
    rw [if_pos heq, show max 1 (s.sp / 2 - 1) = s.sp / 2 - 1 by omega]
    exact a1
end MNET
