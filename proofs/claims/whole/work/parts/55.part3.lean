section PART3
variable {d : Nat} {h : AH} {len p : Nat} {T : Nat → Nat}
theorem sPart_k (hk : (decide (p < len) && isK (T p)) = true) : sPart len T (p, none) = sP len T (T p) (p + 1, none) := if_pos hk
theorem sPart_ok {s : SS × PT} (e : sPart len T (p, none) = s) (h2 : s.1.2 = none) : (decide (p < len) && isK (T p)) = true := by
  cases hk : (decide (p < len) && isK (T p)) with
  | true => rfl
  | false =>
    have : sPart len T (p, none) = ((len, some p), (0, 0, 0, 0)) := by unfold sPart; rw [hk]; rfl
    rw [← e, this] at h2
    cases h2
theorem m_isPart {k : Nat} (hk : k + 3 < 640) (hT : ∀ i, i < len → T i ≤ 127) (hw : zWF h) (hC : MT h len T p none) : zK (d + 4) m_X11_isPart [.ref 53, .int (nI k)] h (kI (fun x h' => x = bI (sPart len T (p, none)).1.2.isNone ∧ mO h' len T (sPart len T (p, none)).1 ∧ ((sPart len T (p, none)).1.2 = none → mslot h' k (sPart len T (p, none)).2) ∧ rfr k h h')) := by
  have hp : p ≤ 160 := Nat.le_trans hC.2.2.2.2.1 hC.2.1
  have hlen := hC.2.1
  refine r_X11_isPart_0 _ hw (use_pI (m_here hw hC) ⟨v640 (by omega), fun h3 q3 => ?_⟩)
  rw [nI_add, cl_n (show k < 640 by omega) (by decide)]  at *
  refine ⟨v640 (by omega), fun h5 q5 => ?_⟩
  rw [cl_n (show k + 3 < 640 by omega) (by decide)] at q5
  have hw5 := wf_I q5 (wf_I q3 hw)
  have c5 := MT_67 (MT_67 hC q3) q5
  have f5 : rfr k h h5 := rfr_tr (rfr_s q3 (Nat.le_refl _)) (rfr_s q5 (by omega))
  have s0 : h5.I 67 k = nx len T p := by rw [q5, AH.sI_I, va_up_ne _ _ (by omega), q3, AH.sI_I, va_up_self]
  have s3 : h5.I 67 (k + 3) = nI 1 := by rw [q5, AH.sI_I, va_up_self]
  clear q5 q3
  refine four (fun z => ?_) (fun ⟨z1, z2, z3, z4⟩ => ?_)
  · have hlt : p < len := by
      rcases z with z | z | z | z
      · exact nx_in (by decide) z
      · exact nx_in (by decide) z
      · exact nx_in (by decide) z
      · exact nx_in (by decide) z
    have hkk : (decide (p < len) && isK (T p)) = true := by
      rw [decide_eq_true hlt, Bool.true_and]
      rcases z with z | z | z | z
      · rw [nx_eq hT (by decide) z]; rfl
      · rw [nx_eq hT (by decide) z]; rfl
      · rw [nx_eq hT (by decide) z]; rfl
      · rw [nx_eq hT (by decide) z]; rfl
    have h127 := hT _ hlt
    have enx : nx len T p = nI (T p) := if_pos hlt
    clear z
    rw [sPart_k hkk]
    rw [enx] at s0 ⊢
    clear hkk enx
    generalize T p = c at h127 s0 ⊢
    refine r_X11_isPart_54 _ _ hw5 (fun h1 q1 => ?_)
    have hw1 := wf_I q1 hw5
    have c1 := MT_step c5 hlt q1
    have f1 : rfr k h h1 := rfr_tr f5 (rfr_n (nfr_s q1 (Or.inl rfl)))
    have t0 : h1.I 67 k = nI c := by rw [q1]; exact s0
    have t3 : h1.I 67 (k + 3) = nI 1 := by rw [q1]; exact s3
    clear q1 s0 s3 f5 c5 hw5
    have hb1 := rd2_b (len := len) (T := T) (p + 1)
    unfold sP
    dsimp only
    rw [ne_eq, nI_eqE (by omega) (by decide), nI_eqE (by omega) (by decide)]
    refine ⟨fun z => ?_, fun z => ?_⟩
    · rw [if_neg z]
      refine use_kI (m_isTwo hk hT hw1 c1) (fun x4 h3 hw3 ⟨a1, a2, a3, a4, a5⟩ => ?_)
      subst a1
      have f3 : rfr k h h3 := rfr_tr f1 ⟨a4.1, a4.2.1, fun j hj => a4.2.2 j (by omega)⟩
      have u0 : h3.I 67 k = nI c := by rw [a4.2.2 k (by omega)]; exact t0
      have u3 : h3.I 67 (k + 3) = nI 1 := by rw [a5]; exact t3
      have hgd : gd len (sOther len T (rd len T 2 (p + 1) 0).2 (sNeed len T 44 (sNum len T 2 39 (p + 1, none)))) := gd_other (gd_need (by decide) (gd_num _ _ (gd_n _ _)))
      generalize (rd len T 2 (sNeed len T 44 (sNum len T 2 39 (p + 1, none))).1 0).2 = v at *
      generalize sOther len T (rd len T 2 (p + 1) 0).2 (sNeed len T 44 (sNum len T 2 39 (p + 1, none))) = s4 at *
      generalize (rd len T 2 (p + 1) 0).2 = u at *
      rcases gd_e hgd with e | ⟨f, e⟩
      · rw [e] at a2 a3 ⊢
        generalize s4.1 = q at a2 a3 ⊢
        have cm := a2.1 rfl
        obtain ⟨w1, w2⟩ := a3 rfl
        have eq43 : nI c = nI 43 ↔ c = 43 := nI_eqE (by omega) (by decide)
        refine ⟨fun _ => ⟨fun y => mk_kI hw3 ?_, fun y => use_pI (m_here hw3 cm) ?_⟩, fun q => absurd q bt0⟩
        · rw [if_neg (fun k => y (eq43.mpr k.1))]
          exact ⟨rfl, mO_n cm, fun _ => ⟨u0, w1, fun _ => w2, u3⟩, f3⟩
        · refine ⟨fun y2 => ?_, fun y2 => mk_kI hw3 ?_⟩
          · have et : tk len T q 61 = true := decide_eq_true y2
            have hq := tk_lt (by decide) et
            rw [if_pos ⟨y, et⟩, sTake_t (s := (q, none)) et]
            intro h9 q9
            have hw9 := wf_I q9 hw3
            have c9 := MT_step cm hq q9
            have f9 : rfr k h h9 := rfr_tr f3 (rfr_n (nfr_s q9 (Or.inl rfl)))
            have e67 : h9.I 67 = h3.I 67 := sI_r q9 (by decide)
            refine use_pI (m_here hw9 c9) ?_
            rw [c9.2.2.2.1]
            have fin : ∀ (b : Bool) (p2 : Nat), p2 ≤ len → sTake len T 45 (q + 1, none) = (p2, none) → (wv len T (q + 1) = if b = true then - nI (rd len T 7 p2 0).2 else nI (rd len T 7 p2 0).2) → ∀ g, g = h9.sI 53 20 (nI p2) → zK (d + 3) m_X11_isNumber [.ref 53, .int (nI 7), .int (nI 2000000)] g (kI fun x15 h14 => (x15 ≠ 0 → vp_in (nI (k + 3)) 640 ∧ ∀ h19, h19 = h14.sI 67 (nI (k + 3)).toNatClampNeg (if b = true then - (h14.I 53 22) else h14.I 53 22) → kI (fun x h' => x = bI (sNum len T 7 2000000 (sTake len T 45 (q + 1, none)), (c, u, v, wv len T (q + 1))).1.2.isNone ∧ mO h' len T (sNum len T 7 2000000 (sTake len T 45 (q + 1, none)), (c, u, v, wv len T (q + 1))).1 ∧ ((sNum len T 7 2000000 (sTake len T 45 (q + 1, none)), (c, u, v, wv len T (q + 1))).1.2 = none → mslot h' k (sNum len T 7 2000000 (sTake len T 45 (q + 1, none)), (c, u, v, wv len T (q + 1))).2) ∧ rfr k h h') (some (.int (nI 1))) h19) ∧ (x15 = 0 → kI (fun x h' => x = bI (sNum len T 7 2000000 (sTake len T 45 (q + 1, none)), (c, u, v, wv len T (q + 1))).1.2.isNone ∧ mO h' len T (sNum len T 7 2000000 (sTake len T 45 (q + 1, none)), (c, u, v, wv len T (q + 1))).1 ∧ ((sNum len T 7 2000000 (sTake len T 45 (q + 1, none)), (c, u, v, wv len T (q + 1))).1.2 = none → mslot h' k (sNum len T 7 2000000 (sTake len T 45 (q + 1, none)), (c, u, v, wv len T (q + 1))).2) ∧ rfr k h h') (some (.int (nI 0))) h14)) := by
              intro b p2 hp2 eT ewv g qg
              rw [eT]
              have hwg := wf_I qg hw9
              have cg := MT_sp c9 hp2 qg
              have fg : rfr k h g := rfr_tr f9 (rfr_n (nfr_s qg (Or.inl rfl)))
              refine use_kI (m_isNumber (by decide) (by decide) (by decide) hT hwg cg) (fun x15 h14 hw14 ⟨b1, b2, b3, b4⟩ => ?_)
              subst b1
              have e14 : h14.I 67 = h3.I 67 := by rw [frm_I b4.1 (by decide), sI_r qg (by decide)]; exact e67
              cases en : nok len T 7 2000000 p2 with
              | true =>
                rw [en, if_pos rfl] at b2
                rw [sNum_t en]
                refine ⟨fun _ => ⟨v640 (by omega), fun h19 q19 => mk_kI (wf_I q19 hw14) ⟨rfl, mO_n (MT_67 b2 q19), fun _ => ?_, rfr_tr fg (rfr_tr (rfr_n b4) (rfr_s q19 (by rw [cl_n (show k + 3 < 640 by omega) (by decide)]; omega)))⟩⟩, fun z => absurd z bt0⟩
                rw [cl_n (show k + 3 < 640 by omega) (by decide), b3, ← ewv] at q19
                refine ⟨?_, ?_, fun _ => ?_, sI_e q19⟩
                · rw [q19, AH.sI_I, va_up_ne _ _ (by omega), e14]; exact u0
                · rw [q19, AH.sI_I, va_up_ne _ _ (by omega), e14]; exact w1
                · rw [q19, AH.sI_I, va_up_ne _ _ (by omega), e14]; exact w2
              | false =>
                rw [en, if_neg (by decide)] at b2
                rw [sNum_f en]
                exact ⟨fun z => absurd bf0 z, fun _ => mk_kI hw14 ⟨rfl, mO_f b2, (fun z => by cases z), rfr_tr fg (rfr_n b4)⟩⟩
            refine ⟨fun y3 => ⟨fun _ g qg => ?_, fun z => absurd rfl z⟩, fun y3 => ⟨fun z => absurd z (by decide), fun _ g qg => ?_⟩⟩
            · have e45 : tk len T (q + 1) 45 = false := decide_eq_false y3
              rw [nI_add] at qg
              refine use_kI (fin false (q + 1) hq (sTake_f (s := (q + 1, none)) e45) (by unfold wv; rw [e45]; rfl) g qg) (fun x15 h14 hw14 ⟨k1, k2⟩ => ⟨fun z => ⟨fun _ => ?_, fun z => absurd rfl z⟩, k2⟩)
              rw [nI_add]
              exact k1 z
            · have e45 : tk len T (q + 1) 45 = true := decide_eq_true y3
              rw [nI_add] at qg
              refine use_kI (fin true (q + 1 + 1) (tk_lt (by decide) e45) (sTake_t (s := (q + 1, none)) e45) (by unfold wv; rw [e45]; rfl) g qg) (fun x15 h14 hw14 ⟨k1, k2⟩ => ⟨fun z => ⟨fun z => absurd z (by decide), fun _ => ?_⟩, k2⟩)
              rw [nI_add]
              exact k1 z
          · have et : tk len T q 61 = false := decide_eq_false y2
            rw [if_neg (fun k => absurd (et.symm.trans k.2) (by decide))]
            exact ⟨rfl, mO_n cm, fun _ => ⟨u0, w1, fun _ => w2, u3⟩, f3⟩
      · rw [e] at a2 a3 ⊢
        rw [if_neg (fun y => absurd ((tk_end (show 61 ≤ 160 by decide)).symm.trans y.2) (by decide))]
        exact ⟨fun q => absurd bf0 q, fun _ => mk_kI hw3 ⟨rfl, a2, (fun q => by cases q), f3⟩⟩
    · subst z
      rw [if_pos rfl]
      refine use_kI (m_isNumber (by decide) (by decide) (by decide) hT hw1 c1) (fun x h50 hw50 ⟨b1, b2, b3, b4⟩ => ?_)
      subst b1
      rw [nI_add]
      refine ⟨v640 (by omega), fun h53 q53 => ⟨?_, mk_kI (wf_I q53 hw50) ?_⟩⟩
      · exact bI01 _
      rw [cl_n (show k + 1 < 640 by omega) (by decide), b3] at q53
      have f53 : rfr k h h53 := rfr_tr f1 (rfr_tr (rfr_n b4) (rfr_s q53 (by omega)))
      have c53 := MT_67 b2 q53
      have e67 : h50.I 67 = h1.I 67 := frm_I b4.1 (by decide)
      cases en : nok len T 2 39 (p + 1) with
      | true =>
        rw [en, if_pos rfl] at c53
        rw [sNum_t en]
        refine ⟨rfl, mO_n c53, fun _ => ⟨?_, sI_e q53, fun z => absurd rfl z, ?_⟩, f53⟩
        · rw [q53, AH.sI_I, va_up_ne _ _ (by omega), e67]; exact t0
        · rw [q53, AH.sI_I, va_up_ne _ _ (by omega), e67]; exact t3
      | false =>
        rw [en, if_neg (by decide)] at c53
        rw [sNum_f en]
        exact ⟨rfl, mO_f c53, (fun z => by cases z), f53⟩
  · have hkk : (decide (p < len) && isK (T p)) = false := by
      by_cases y : p < len
      · rw [decide_eq_true y, Bool.true_and]
        have enx : nx len T p = nI (T p) := if_pos y
        have h127 := hT _ y
        rw [enx, ne_eq, nI_eqE (by omega) (by decide)] at z1 z2 z3 z4
        unfold isK
        rw [decide_eq_false z1, decide_eq_false z2, decide_eq_false z3, decide_eq_false z4]; rfl
      · rw [decide_eq_false y]; rfl
    have ep : sPart len T (p, none) = ((len, some p), (0, 0, 0, 0)) := by unfold sPart; rw [hkk]; rfl
    rw [ep, c5.2.2.2.1]
    exact use_kI (m_fails hp hw5 c5) (fun x h10 hw10 ⟨b1, b2, b3, b4⟩ => ⟨b1 ▸ Or.inl nI_0, mk_kI hw10 ⟨b1, mO_f b2, (fun z => by cases z), rfr_tr f5 (rfr_n ⟨b3, fun j _ j2 _ => b4 j j2⟩)⟩⟩)
end PART3
