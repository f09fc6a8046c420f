/-! PICK: the reference's reading -/
def pkf (h h' : AH) : Prop := frm [53, 60] [] h h' ∧ ∀ j, j ≠ 20 → j ≠ 21 → j ≠ 22 → h'.I 53 j = h.I 53 j
theorem pkf_rf {h : AH} : pkf h h := ⟨frm_rf, fun _ _ _ _ => rfl⟩
theorem pkf_tr {h h1 h2 : AH} (a : pkf h h1) (b : pkf h1 h2) : pkf h h2 := ⟨frm_tr a.1 b.1, fun j q1 q2 q3 => (b.2 j q1 q2 q3).trans (a.2 j q1 q2 q3)⟩
theorem pkf_n {h h1 : AH} (a : nfr h h1) : pkf h h1 := ⟨frm_up a.1 (by decide) (by decide), a.2⟩
theorem wI_n {h : AH} {k r : Nat} {f : Nat → Int32} (hr : r ≠ k) : (h.wI k f).I r = h.I r := va_up_ne _ _ hr
theorem wI_r {h h' : AH} {k r : Nat} {f : Nat → Int32} (e : h' = h.wI k f) (hr : r ≠ k) : h'.I r = h.I r := by rw [e]; exact wI_n hr
theorem pkf_60 {h h1 : AH} {g : Nat → Int32} (e : h1 = h.wI 60 g) : pkf h h1 := ⟨frm_wI e (by decide), fun j _ _ _ => by
  have : h1.I 53 = h.I 53 := wI_r e (by decide)
  rw [this]⟩
theorem pkf_L {h h1 : AH} (a : pkf h h1) (k : Nat) : h1.L k = h.L k := frm_L a.1 List.not_mem_nil
theorem five {x a b c e g : Int32} {X F : Prop} (A : (x = a ∨ x = b ∨ x = c ∨ x = e ∨ x = g) → X) (B : (x ≠ a ∧ x ≠ b ∧ x ≠ c ∧ x ≠ e ∧ x ≠ g) → F) : (x = a → X) ∧ (¬ x = a → (x = b → X) ∧ (¬ x = b → (x = c → X) ∧ (¬ x = c → (x = e → X) ∧ (¬ x = e → (x = g → X) ∧ (¬ x = g → F))))) :=
  ⟨fun z => A (Or.inl z), fun z1 => ⟨fun z => A (Or.inr (Or.inl z)), fun z2 => ⟨fun z => A (Or.inr (Or.inr (Or.inl z))), fun z3 => ⟨fun z => A (Or.inr (Or.inr (Or.inr (Or.inl z)))), fun z4 => ⟨fun z => A (Or.inr (Or.inr (Or.inr (Or.inr z)))), fun z5 => B ⟨z1, z2, z3, z4, z5⟩⟩⟩⟩⟩⟩
section PICKM
variable {d : Nat} {h : AH} {len : Nat} {T : Nat → Nat} {f : Nat → Int64} {hv : Int64}
theorem m_letterOf {L u : Nat} (hL : isL L = true) (hu : u < 40) (hw : zWF h) (e58 : h.L 58 = f) (e6 : h.L 53 6 = hv) (hc : L = 99 → h.I 60 u = nI (cor f u)) : zK (d + 4) m_X11_letterOf [.ref 53, .int (nI u), .int (nI L)] h (pI h (fun x => x = nI (fgV f hv L u))) := by
  refine r_X11_letterOf_0 _ _ hw ?_
  unfold fgV
  rcases isL_b hL with q | q | q | q | q
  · subst q
    exact ⟨fun z => absurd rfl z, fun _ => mk_pI (by rw [if_pos rfl])⟩
  · subst q
    refine ⟨fun _ => ⟨fun z => absurd rfl z, fun _ => use_pI (m_degree hw hu) (mk_pI ?_)⟩, fun z => absurd z (by decide)⟩
    rw [e58, if_neg (by decide), if_pos rfl]
  · subst q
    refine ⟨fun _ => ⟨fun _ => ⟨fun z => absurd rfl z, fun _ => use_pI (m_trianglesOf hw hu) (mk_pI ?_)⟩, fun z => absurd z (by decide)⟩, fun z => absurd z (by decide)⟩
    rw [e58, if_neg (by decide), if_neg (by decide), if_pos rfl]
  · subst q
    refine ⟨fun _ => ⟨fun _ => ⟨fun _ => ⟨fun z => absurd rfl z, fun _ => ⟨vi40 hu, mk_pI ?_⟩⟩, fun z => absurd z (by decide)⟩, fun z => absurd z (by decide)⟩, fun z => absurd z (by decide)⟩
    rw [cl40 hu, hc rfl, if_neg (by decide), if_neg (by decide), if_neg (by decide), if_pos rfl]
  · subst q
    refine ⟨fun _ => ⟨fun _ => ⟨fun _ => ⟨fun _ => use_pI (c_has (by omega)) ?_, fun z => absurd z (by decide)⟩, fun z => absurd z (by decide)⟩, fun z => absurd z (by decide)⟩, fun z => absurd z (by decide)⟩
    rw [e6]
    cases gb hv u with
    | true => exact ⟨fun z => absurd z bt0, fun _ => mk_pI (by rw [if_neg (by decide), if_neg (by decide), if_neg (by decide), if_neg (by decide), if_pos rfl])⟩
    | false => exact ⟨fun _ => mk_pI (by rw [if_neg (by decide), if_neg (by decide), if_neg (by decide), if_neg (by decide), if_neg (by decide)]), fun z => absurd bf0 z⟩
theorem m_tLoop {L sg n : Nat} {P : Int64 → AH → Prop} (hL : isL L = true) (hg : isG sg = true) (hn : n < 1000) (hw : zWF h) (e58 : h.L 58 = f) (e6 : h.L 53 6 = hv) (hc : L = 99 → ∀ u, u < 40 → h.I 60 u = nI (cor f u)) (e22 : h.I 53 22 = nI n) (K : P (tS f hv L sg n) h) : zQ none m_X11_tested (d + 5) 128 [(0, .ref 53), (1, .int (nI L)), (2, .int (nI sg)), (3, .long 0), (5, .int (nI 0))] [] h (kL P) := by
  have eS : ∀ i, mk (fun v => tsN sg (fgV f hv L v) n) (i + 1) = if tsN sg (fgV f hv L i) n = true then mk (fun v => tsN sg (fgV f hv L v) n) i ||| one i else mk (fun v => tsN sg (fgV f hv L v) n) i := fun i => rfl
  refine nat_down (N := 40) (P := fun i => zQ none m_X11_tested (d + 5) 128 [(0, .ref 53), (1, .int (nI L)), (2, .int (nI sg)), (3, .long (mk (fun v => tsN sg (fgV f hv L v) n) i)), (5, .int (nI i))] [] h _) ?_ (fun i hi ih => ?_) 0 (Nat.zero_le _)
  · exact r_X11_tested_128 _ _ _ _ hw ⟨fun _ => mk_kL hw K, fun y => absurd e40 y⟩
  · refine r_X11_tested_128 _ _ _ _ hw ⟨fun y => absurd y (n40 hi), fun _ => use_pI (m_letterOf hL hi hw e58 e6 (fun q => hc q i hi)) ?_⟩
    have hb := fgV_le f hv L hi
    rw [eS] at ih
    have yes : tsN sg (fgV f hv L i) n = true → zQ none m_X11_tested (d + 5) 128 [(0, .ref 53), (1, .int (nI L)), (2, .int (nI sg)), (3, .long (mk (fun v => tsN sg (fgV f hv L v) n) i ||| one i)), (5, .int (nI (i + 1)))] [] h (kL P) := fun e => by rw [if_pos e] at ih; exact ih
    have no : tsN sg (fgV f hv L i) n = false → zQ none m_X11_tested (d + 5) 128 [(0, .ref 53), (1, .int (nI L)), (2, .int (nI sg)), (3, .long (mk (fun v => tsN sg (fgV f hv L v) n) i ||| 0)), (5, .int (nI (i + 1)))] [] h (kL P) := fun e => by rw [if_neg (by rw [e]; decide), ← or0 (mk _ i)] at ih; exact ih
    rw [nI_add, e22, nI_leE (by omega) (by omega), nI_leE (by omega) (by omega), ne_eq, ne_eq, ne_eq, nI_eqE (a := fgV f hv L i) (by omega) (by omega)]
    rcases isG_b hg with q | q | q
    · subst q
      refine ⟨fun z => absurd rfl z, fun _ => ⟨fun z => no ?_, fun z => yes ?_⟩⟩
      · unfold tsN; rw [if_pos rfl, decide_eq_false (by omega)]
      · unfold tsN; rw [if_pos rfl, decide_eq_true (by omega)]
    · subst q
      refine ⟨fun _ => ⟨fun _ => ⟨fun z => no ?_, fun z => yes ?_⟩, fun z => absurd z (by decide)⟩, fun z => absurd z (by decide)⟩
      · unfold tsN; rw [if_neg (by decide), if_pos rfl, decide_eq_false z]
      · unfold tsN; rw [if_neg (by decide), if_pos rfl, decide_eq_true z]
    · subst q
      refine ⟨fun _ => ⟨fun z => absurd rfl z, fun _ => ⟨fun z => no ?_, fun z => yes ?_⟩⟩, fun z => absurd z (by decide)⟩
      · unfold tsN; rw [if_neg (by decide), if_neg (by decide), decide_eq_false (by omega)]
      · unfold tsN; rw [if_neg (by decide), if_neg (by decide), decide_eq_true (by omega)]
theorem m_tested {p : Nat} (hf : GF f) (hT : ∀ i, i < len → T i ≤ 127) (hw : zWF h) (e58 : h.L 58 = f) (e6 : h.L 53 6 = hv) (hC : MT h len T p none) : zK (d + 5) m_X11_tested [.ref 53] h (kL (fun x h' => ((sTest f hv len T (p, none)).1.2 = none → x = (sTest f hv len T (p, none)).2) ∧ mO h' len T (sTest f hv len T (p, none)).1 ∧ pkf h h')) := by
  have hp : p ≤ 160 := Nat.le_trans hC.2.2.2.2.1 hC.2.1
  have hlen := hC.2.1
  refine r_X11_tested_0 hw (use_pI (m_here hw hC) (five (fun z => ?_) (fun ⟨z1, z2, z3, z4, z5⟩ => ?_)))
  · have h160 : ∃ g, isL g = true ∧ g ≤ 160 ∧ nx len T p = nI g := by
      rcases z with z | z | z | z | z
      · exact ⟨110, rfl, by decide, z⟩
      · exact ⟨100, rfl, by decide, z⟩
      · exact ⟨116, rfl, by decide, z⟩
      · exact ⟨99, rfl, by decide, z⟩
      · exact ⟨104, rfl, by decide, z⟩
    obtain ⟨L, g1, g2, g3⟩ := h160
    clear z
    have e1 := nx_eq hT g2 g3
    have hlt := nx_in g2 g3
    have eT : sTest f hv len T (p, none) = if (decide (p + 1 < len) && isG (T (p + 1))) = true then (sNum len T 3 999 (p + 1 + 1, none), tS f hv L (T (p + 1)) (rd len T 3 (p + 1 + 1) 0).2) else (sFail len (p + 1) (p + 1, none), 0) := by
      unfold sTest
      rw [if_pos (by rw [decide_eq_true (show (p, (none : Option Nat)).1 < len from hlt), show T (p, (none : Option Nat)).1 = L from e1, g1]; rfl), show T (p, (none : Option Nat)).1 = L from e1]
    rw [eT, g3]
    refine r_X11_tested_46 _ hw (fun h1 q1 => ?_)
    have hw1 := wf_I q1 hw
    have c1 := MT_step hC hlt q1
    have f1 : pkf h h1 := pkf_n (nfr_s q1 (Or.inl rfl))
    refine use_pI (m_here hw1 c1) (three (fun z => ?_) (fun ⟨z1, z2, z3⟩ => ?_))
    · have h160 : ∃ g, isG g = true ∧ g ≤ 160 ∧ nx len T (p + 1) = nI g := by
        rcases z with z | z | z
        · exact ⟨60, rfl, by decide, z⟩
        · exact ⟨61, rfl, by decide, z⟩
        · exact ⟨62, rfl, by decide, z⟩
      obtain ⟨sg, k1, k2, k3⟩ := h160
      clear z
      have e2 := nx_eq hT k2 k3
      have hlt2 := nx_in k2 k3
      rw [if_pos (by rw [decide_eq_true hlt2, e2, k1]; rfl), k3, e2]
      refine r_X11_tested_90 _ _ hw1 (fun h2 q2 => ?_)
      have hw2 := wf_I q2 hw1
      have c2 := MT_step c1 hlt2 q2
      have f2 : pkf h h2 := pkf_tr f1 (pkf_n (nfr_s q2 (Or.inl rfl)))
      refine use_kI (m_isNumber (by decide) (by decide) (by decide) hT hw2 c2) (fun x h3 hw3 ⟨a1, a2, a3, a4⟩ => ?_)
      subst a1
      have f3 := pkf_tr f2 (pkf_n a4)
      have hb := rd3_b (len := len) (T := T) (p + 1 + 1)
      cases en : nok len T 3 999 (p + 1 + 1) with
      | false =>
        rw [en, if_neg (by decide)] at a2
        rw [sNum_f en]
        exact ⟨fun q => absurd bf0 q, fun _ => mk_kL hw3 ⟨(fun q => by cases q), mO_f a2, f3⟩⟩
      | true =>
        rw [en, if_pos rfl] at a2
        rw [sNum_t en, ne_eq, nI_eqE (by omega) (by decide)]
        refine ⟨fun _ => ⟨fun z => ?_, fun z => ?_⟩, fun q => absurd q bt0⟩
        · exact m_tLoop g1 k1 hb hw3 (by rw [pkf_L f3]; exact e58) (by rw [pkf_L f3]; exact e6) (fun q => absurd (by rw [q]) z) a3 ⟨fun _ => rfl, mO_n a2, f3⟩
        · refine use_kV (m_cores hw3 (by rw [pkf_L f3, e58]; exact hf)) (fun h6 hw6 ⟨g, b1, b2⟩ => ?_)
          have f6 := pkf_tr f3 (pkf_60 b1)
          have c6 : MT h6 len T (rd len T 3 (p + 1 + 1) 0).1 none := by
            obtain ⟨t1, t2, t3, t4, t5, t6, t7⟩ := a2
            have x53 : h6.I 53 = h3.I 53 := wI_r b1 (by decide)
            have x66 : h6.I 66 = h3.I 66 := wI_r b1 (by decide)
            exact ⟨by rw [x53]; exact t1, t2, fun i hi => by rw [x66]; exact t3 i hi, by rw [x53]; exact t4, t5, by rw [x53]; exact t6, t7⟩
          refine m_tLoop g1 k1 hb hw6 (by rw [pkf_L f6]; exact e58) (by rw [pkf_L f6]; exact e6) (fun _ u hu => ?_) (by rw [wI_r b1 (show 53 ≠ 60 by decide)]; exact a3) ⟨fun _ => rfl, mO_n c6, f6⟩
          rw [b1, AH.wI_I, b2 u hu, pkf_L f3, e58]
    · have hk : (decide (p + 1 < len) && isG (T (p + 1))) = false := by
        by_cases y : p + 1 < len
        · rw [decide_eq_true y, Bool.true_and]
          have enx : nx len T (p + 1) = nI (T (p + 1)) := if_pos y
          have h127 := hT _ y
          rw [enx, ne_eq, nI_eqE (by omega) (by decide)] at z1 z2 z3
          unfold isG
          rw [decide_eq_false z1, decide_eq_false z2, decide_eq_false z3]; rfl
        · rw [decide_eq_false y]; rfl
      rw [if_neg (by rw [hk]; decide), c1.2.2.2.1]
      exact use_kI (m_fails (by omega) hw1 c1) (fun x h6 hw6 ⟨b1, b2, b3, b4⟩ => mk_kL hw6 ⟨(fun q => by cases q), mO_f b2, pkf_tr f1 (pkf_n ⟨b3, fun j _ j2 _ => b4 j j2⟩)⟩)
  · have hk : (decide (p < len) && isL (T p)) = false := by
      by_cases y : p < len
      · rw [decide_eq_true y, Bool.true_and]
        have enx : nx len T p = nI (T p) := if_pos y
        have h127 := hT _ y
        rw [enx, ne_eq, nI_eqE (by omega) (by decide)] at z1 z2 z3 z4 z5
        unfold isL
        rw [decide_eq_false z1, decide_eq_false z2, decide_eq_false z3, decide_eq_false z4, decide_eq_false z5]; rfl
      · rw [decide_eq_false y]; rfl
    have eT : sTest f hv len T (p, none) = (sFail len p (p, none), 0) := by unfold sTest; rw [if_neg (by rw [hk]; decide)]
    rw [eT, hC.2.2.2.1]
    exact use_kI (m_fails hp hw hC) (fun x h6 hw6 ⟨b1, b2, b3, b4⟩ => mk_kL hw6 ⟨(fun q => by cases q), mO_f b2, pkf_n ⟨b3, fun j _ j2 _ => b4 j j2⟩⟩)
end PICKM
