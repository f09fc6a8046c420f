section PICK2
variable {len : Nat} {T : Nat → Nat} {f : Nat → Int64} {hv : Int64}
theorem sLoop_t {g : SS → RS} {t : Nat} {op : Int64 → Int64 → Int64} {n : Nat} {r : RS} (e : tk len T r.1.1 t = true) : sLoop len T g t op (n + 1) r = sLoop len T g t op n ((g (r.1.1 + 1, r.1.2)).1, op r.2 (g (r.1.1 + 1, r.1.2)).2) := if_pos e
theorem sLoop_f {g : SS → RS} {t : Nat} {op : Int64 → Int64 → Int64} {n : Nat} {r : RS} (e : tk len T r.1.1 t = false) : sLoop len T g t op n r = r := by
  cases n with
  | zero => rfl
  | succ n => exact if_neg (by rw [e]; decide)
/-- the class's method K reads what g says -/
def cR (f : Nat → Int64) (hv : Int64) (len : Nat) (T : Nat → Nat) (d : Nat) (M : Mth) (k : Int32) (g : SS → RS) : Prop := ∀ (h : AH) (s : SS), zWF h → EN f hv h → CS h len T s → zK d M [.ref 30, .ref 23, .int k] h (kL (fun x h' => x = (g s).2 ∧ CS h' len T (g s).1 ∧ frm [23] [] h h'))
theorem c_both {d : Nat} {k : Int32} {g : SS → RS} (H : cR f hv len T (d + 2) m_X7_single k g) : cR f hv len T (d + 3) m_X7_both k (sSeq len T g 38 iand) := by
  intro h s hw hE hC
  refine r_X7_both_0 _ hw (use_kL (H h s hw hE hC) (fun x h1 hw1 ⟨a1, a2, a3⟩ => ?_))
  subst a1
  have key : ∀ n i, n + i = 160 → ∀ (h1 : AH) (r : RS), zWF h1 → EN f hv h1 → CS h1 len T r.1 → frm [23] [] h h1 → zQ none m_X7_both (d + 2 + 1) 10 [(0, .ref 30), (1, .ref 23), (2, .int k), (3, .long r.2), (5, .int (nI i))] [] h1 (kL (fun x h' => x = (sLoop len T g 38 iand n r).2 ∧ CS h' len T (sLoop len T g 38 iand n r).1 ∧ frm [23] [] h h')) := by
    intro n
    induction n with
    | zero =>
      intro i hi h1 r hw1 hE1 c1 f1
      rw [Nat.zero_add] at hi
      subst hi
      exact r_X7_both_10 _ _ _ hw1 ⟨fun _ => mk_kL hw1 ⟨rfl, c1, f1⟩, fun z => absurd ((nI_leE (by decide) (by decide)).mpr (Nat.le_refl _)) z⟩
    | succ n ih =>
      intro i hi h1 r hw1 hE1 c1 f1
      refine r_X7_both_10 _ _ _ hw1 ⟨fun z => absurd ((nI_leE (by decide) (by omega)).mp z) (by omega), fun _ => use_kI (c_takeS (by decide) hw1 c1) (fun x h2 hw2 ⟨b1, b2, b3⟩ => ?_)⟩
      subst b1
      have f2 := frm_tr f1 b3
      cases e : tk len T r.1.1 38 with
      | false =>
        rw [sTake_f e] at b2
        rw [sLoop_f e]
        exact ⟨fun _ => mk_kL hw2 ⟨rfl, b2, f2⟩, fun z => absurd bf0 z⟩
      | true =>
        rw [sTake_t e] at b2
        rw [sLoop_t e, nI_add]
        exact ⟨fun z => absurd z bt0, fun _ => use_kL (H h2 _ hw2 (EN_23 b3 hE1) b2) (fun y h5 hw5 ⟨d1, d2, d3⟩ => by rw [d1]; exact ih (i + 1) (by omega) h5 (_, _) hw5 (EN_23 d3 (EN_23 b3 hE1)) d2 (frm_tr f2 d3))⟩
  exact key 160 0 rfl h1 (g s) hw1 (EN_23 a3 hE) a2 a3
theorem c_either {d : Nat} {k : Int32} {g : SS → RS} (H : cR f hv len T (d + 2) m_X7_both k g) : cR f hv len T (d + 3) m_X7_either k (sSeq len T g 124 ior) := by
  intro h s hw hE hC
  refine r_X7_either_0 _ hw (use_kL (H h s hw hE hC) (fun x h1 hw1 ⟨a1, a2, a3⟩ => ?_))
  subst a1
  have key : ∀ n i, n + i = 160 → ∀ (h1 : AH) (r : RS), zWF h1 → EN f hv h1 → CS h1 len T r.1 → frm [23] [] h h1 → zQ none m_X7_either (d + 2 + 1) 10 [(0, .ref 30), (1, .ref 23), (2, .int k), (3, .long r.2), (5, .int (nI i))] [] h1 (kL (fun x h' => x = (sLoop len T g 124 ior n r).2 ∧ CS h' len T (sLoop len T g 124 ior n r).1 ∧ frm [23] [] h h')) := by
    intro n
    induction n with
    | zero =>
      intro i hi h1 r hw1 hE1 c1 f1
      rw [Nat.zero_add] at hi
      subst hi
      exact r_X7_either_10 _ _ _ hw1 ⟨fun _ => mk_kL hw1 ⟨rfl, c1, f1⟩, fun z => absurd ((nI_leE (by decide) (by decide)).mpr (Nat.le_refl _)) z⟩
    | succ n ih =>
      intro i hi h1 r hw1 hE1 c1 f1
      refine r_X7_either_10 _ _ _ hw1 ⟨fun z => absurd ((nI_leE (by decide) (by omega)).mp z) (by omega), fun _ => use_kI (c_takeS (by decide) hw1 c1) (fun x h2 hw2 ⟨b1, b2, b3⟩ => ?_)⟩
      subst b1
      have f2 := frm_tr f1 b3
      cases e : tk len T r.1.1 124 with
      | false =>
        rw [sTake_f e] at b2
        rw [sLoop_f e]
        exact ⟨fun _ => mk_kL hw2 ⟨rfl, b2, f2⟩, fun z => absurd bf0 z⟩
      | true =>
        rw [sTake_t e] at b2
        rw [sLoop_t e, nI_add]
        exact ⟨fun z => absurd z bt0, fun _ => use_kL (H h2 _ hw2 (EN_23 b3 hE1) b2) (fun y h5 hw5 ⟨d1, d2, d3⟩ => by rw [d1]; exact ih (i + 1) (by omega) h5 (_, _) hw5 (EN_23 d3 (EN_23 b3 hE1)) d2 (frm_tr f2 d3))⟩
  exact key 160 0 rfl h1 (g s) hw1 (EN_23 a3 hE) a2 a3
theorem nAny_cg {f g : Nat → Int64} (e : ∀ v, v < 40 → f v = g v) (S : Int64) : nAny f S = nAny g S := mk_cg 40 (fun v hv => by rw [e v hv])
theorem nOnly_cg {f g : Nat → Int64} (e : ∀ v, v < 40 → f v = g v) (S : Int64) : nOnly f S = nOnly g S := mk_cg 40 (fun v hv => by rw [e v hv])
theorem nx_C {p : Nat} (hT : ∀ i, i < len → T i ≤ 127) (z : nx len T p = nI 40 ∨ nx len T p = nI 33 ∨ nx len T p = nI 83 ∨ nx len T p = nI 65) : p < len ∧ isC (T p) = true := by
  rcases z with z | z | z | z
  · exact ⟨nx_in (by decide) z, by rw [nx_eq hT (by decide) z]; rfl⟩
  · exact ⟨nx_in (by decide) z, by rw [nx_eq hT (by decide) z]; rfl⟩
  · exact ⟨nx_in (by decide) z, by rw [nx_eq hT (by decide) z]; rfl⟩
  · exact ⟨nx_in (by decide) z, by rw [nx_eq hT (by decide) z]; rfl⟩
theorem nx_nC {p : Nat} (hT : ∀ i, i < len → T i ≤ 127) (z : nx len T p ≠ nI 40 ∧ nx len T p ≠ nI 33 ∧ nx len T p ≠ nI 83 ∧ nx len T p ≠ nI 65) : (decide (p < len) && isC (T p)) = false := by
  obtain ⟨z1, z2, z3, z4⟩ := z
  by_cases y : p < len
  · rw [decide_eq_true y, Bool.true_and]
    have enx : nx len T p = nI (T p) := if_pos y
    have h127 := hT _ y
    rw [enx, ne_eq, nI_eqE (by omega) (by decide)] at z1 z2 z3 z4
    unfold isC
    rw [decide_eq_false z1, decide_eq_false z2, decide_eq_false z3, decide_eq_false z4]; rfl
  · rw [decide_eq_false y]; rfl
theorem sSi_no {D : Nat} {s : SS} (hk : (decide (s.1 < len) && isC (T s.1)) = false) : sSi f hv len T D s = sTest f hv len T s := by
  cases D with
  | zero => exact if_neg (by rw [hk]; decide)
  | succ D => exact if_neg (by rw [hk]; decide)
theorem c_single (hT : ∀ i, i < len → T i ≤ 127) : ∀ D d, D ≤ 4 → cR f hv len T (d + 3 * D + 4) m_X7_single (nI (4 - D)) (sSi f hv len T D) := by
  intro D
  induction D with
  | zero =>
    intro d _ h s hw hE hC
    have hp := CS_p hC
    show zK (d + 4) _ _ _ _
    refine r_X7_single_0 _ hw (use_pI (c_next hw hC) (four (fun z => ?_) (fun z => ?_)))
    · obtain ⟨h1, h2⟩ := nx_C hT z
      have e : sSi f hv len T 0 s = (sFail len s.1 s, 0) := if_pos (by rw [decide_eq_true h1, h2]; rfl)
      rw [e, hC.2.2.2.1]
      exact ⟨fun q => absurd q (by decide), fun _ => use_kV (c_failS hp hw hC) (fun h3 hw3 ⟨b1, b2⟩ => mk_kL hw3 ⟨rfl, b1, b2⟩)⟩
    · rw [sSi_no (nx_nC hT z)]
      exact use_kL (c_test hT hw hE hC) (fun x h' hw' q => mk_kL hw' q)
  | succ D ih =>
    intro d hD h s hw hE hC
    have hp := CS_p hC
    have HS := ih (d + 2) (by omega)
    have HE : cR f hv len T (d + 3 * D + 6) m_X7_either (nI (4 - D)) (sSeq len T (sSeq len T (sSi f hv len T D) 38 iand) 124 ior) := c_either (d := d + 3 * D + 3) (c_both (d := d + 3 * D + 2) (ih d (by omega)))
    rw [show d + 2 + 3 * D + 4 = d + 3 * D + 6 by omega] at HS
    rw [show d + 3 * (D + 1) + 4 = d + 3 * D + 7 by omega]
    generalize d + 3 * D = e0 at HS HE ⊢
    refine r_X7_single_0 _ hw (use_pI (c_next hw hC) (four (fun z => ?_) (fun z => ?_)))
    · obtain ⟨h1, h2⟩ := nx_C hT z
      have enx : nx len T s.1 = nI (T s.1) := if_pos h1
      have h127 := hT _ h1
      have e : sSi f hv len T (D + 1) s = if T s.1 = 40 then (sNeed len T 41 (sSeq len T (sSeq len T (sSi f hv len T D) 38 iand) 124 ior (s.1 + 1, s.2)).1, (sSeq len T (sSeq len T (sSi f hv len T D) 38 iand) 124 ior (s.1 + 1, s.2)).2) else ((sSi f hv len T D (s.1 + 1, s.2)).1, trC f (T s.1) (sSi f hv len T D (s.1 + 1, s.2)).2) := if_pos (by rw [decide_eq_true h1, h2]; rfl)
      rw [e, nI_ltE (by omega) (by decide), enx, nI_add, show 4 - (D + 1) + 1 = 4 - D by omega]
      refine ⟨fun _ h4 q4 => ?_, fun y => absurd (by omega) y⟩
      have c4 : CS h4 len T (s.1 + 1, s.2) := CT_step hC h1 q4
      have hw4 := wf_I q4 hw
      have f4 : frm [23] [] h h4 := frm_wI q4 (by decide)
      have E4 := EN_23 f4 hE
      rw [ne_eq, nI_eqE (by omega) (by decide)]
      refine ⟨fun y => ?_, fun y => ?_⟩
      · rw [if_neg y]
        have := HS h4 _ hw4 E4 c4
        refine use_kL this (fun x h6 hw6 ⟨b1, b2, b3⟩ => ?_)
        subst b1
        have E6 := EN_23 b3 E4
        rw [ne_eq, ne_eq, nI_eqE (by omega) (by decide), nI_eqE (by omega) (by decide)]
        unfold trC
        refine ⟨fun k => ⟨fun k2 => ?_, fun k2 => ?_⟩, fun k => ?_⟩
        · rw [if_neg k, if_neg k2]
          refine use_pL (c_nearOnly _ (sh_31 hw6)) (mk_kL hw6 ⟨?_, b2, frm_tr f4 b3⟩)
          exact nOnly_cg E6.1 _
        · rw [if_neg k, if_pos k2]
          refine use_pL (c_nearAny _ (sh_31 hw6)) (mk_kL hw6 ⟨?_, b2, frm_tr f4 b3⟩)
          exact nAny_cg E6.1 _
        · rw [if_pos k]
          exact mk_kL hw6 ⟨rfl, b2, frm_tr f4 b3⟩
      · rw [if_pos y]
        have := HE h4 _ hw4 E4 c4
        refine use_kL this (fun x h12 hw12 ⟨b1, b2, b3⟩ => ?_)
        subst b1
        exact use_kV (c_needS (by decide) hw12 b2) (fun h14 hw14 ⟨d1, d2⟩ => mk_kL hw14 ⟨rfl, d1, frm_tr f4 (frm_tr b3 d2)⟩)
    · rw [sSi_no (nx_nC hT z)]
      exact use_kL (c_test hT hw hE hC) (fun x h' hw' q => mk_kL hw' q)
end PICK2
