theorem sNum_t {len n gr p : Nat} {T : Nat → Nat} {ft : Option Nat} (e : nok len T n gr p = true) : sNum len T n gr (p, ft) = ((rd len T n p 0).1, ft) := by unfold sNum; rw [if_pos e]
theorem sNum_f {len n gr p : Nat} {T : Nat → Nat} (e : nok len T n gr p = false) : sNum len T n gr (p, none) = (len, some p) := by
  unfold sNum
  rw [if_neg (by rw [e]; decide), if_neg (show ¬ (none : Option Nat).isSome = true by decide)]
  rfl
theorem sNeed_t {len t p : Nat} {T : Nat → Nat} {ft : Option Nat} (e : tk len T p t = true) : sNeed len T t (p, ft) = (p + 1, ft) := by unfold sNeed; rw [if_pos e]
theorem sNeed_f {len t p : Nat} {T : Nat → Nat} (e : tk len T p t = false) : sNeed len T t (p, none) = (len, some p) := by
  unfold sNeed sFail
  rw [if_neg (by rw [e]; decide), if_neg (show ¬ (none : Option Nat).isSome = true by decide)]
  rfl
theorem nx_end (len : Nat) (T : Nat → Nat) : nx len T len = -1 := if_neg (Nat.lt_irrefl _)
theorem tk_end {len t : Nat} {T : Nat → Nat} (ht : t ≤ 160) : tk len T len t = false := by
  cases e : tk len T len t with
  | false => rfl
  | true => exact absurd (tk_lt ht e) (Nat.lt_irrefl _)
theorem rd_end (len n : Nat) (T : Nat → Nat) : rd len T n len 0 = (len, 0) := by
  cases n with
  | zero => rfl
  | succ n =>
    rw [rd_s, if_neg]
    unfold dgt
    rw [decide_eq_false (Nat.lt_irrefl _)]
    exact Bool.false_ne_true
theorem nok_end (len n gr : Nat) (T : Nat → Nat) : nok len T n gr len = false := by
  unfold nok
  rw [rd_end, decide_eq_false (fun q => q rfl)]; rfl
theorem sNum_d (len n gr f : Nat) (T : Nat → Nat) : sNum len T n gr (len, some f) = (len, some f) := by
  unfold sNum
  rw [if_neg (by rw [nok_end]; decide), rd_end]; rfl
theorem sNeed_d {len t f : Nat} {T : Nat → Nat} (ht : t ≤ 160) : sNeed len T t (len, some f) = (len, some f) := by
  unfold sNeed
  rw [if_neg (by rw [tk_end ht]; decide)]; rfl
theorem sFail_d (len a f : Nat) : sFail len a (len, some f) = (len, some f) := rfl
theorem sFail_n (len a p : Nat) : sFail len a (p, none) = (len, some a) := rfl
theorem sOther_d (len u f : Nat) (T : Nat → Nat) : sOther len T u (len, some f) = (len, some f) := by
  unfold sOther
  rw [sNum_d, sFail_d]
  split <;> rfl
theorem sOther_t {len u p : Nat} {T : Nat → Nat} (e : nok len T 2 39 p = true) (z : ¬ (rd len T 2 p 0).2 = u) : sOther len T u (p, none) = ((rd len T 2 p 0).1, none) := by
  unfold sOther
  rw [if_neg z, sNum_t e]
theorem sOther_s {len u p : Nat} {T : Nat → Nat} (e : nok len T 2 39 p = true) (z : (rd len T 2 p 0).2 = u) : sOther len T u (p, none) = (len, some p) := by
  unfold sOther
  rw [if_pos z, sNum_t e]
  rfl
theorem sOther_f {len u p : Nat} {T : Nat → Nat} (e : nok len T 2 39 p = false) : sOther len T u (p, none) = (len, some p) := by
  unfold sOther
  rw [sNum_f e, sFail_d]
  split <;> rfl
def gd (len : Nat) (s : SS) : Prop := ∀ f, s.2 = some f → s.1 = len
theorem gd_n (len p : Nat) : gd len (p, none) := fun f q => by cases q
theorem gd_d (len f : Nat) : gd len (len, some f) := fun _ _ => rfl
theorem gd_e {len : Nat} {s : SS} (g : gd len s) : s = (s.1, none) ∨ ∃ f, s = (len, some f) := by
  obtain ⟨q, ft⟩ := s
  cases ft with
  | none => exact Or.inl rfl
  | some f =>
    have : q = len := g f rfl
    subst this
    exact Or.inr ⟨f, rfl⟩
theorem gd_fail {len : Nat} {s : SS} (a : Nat) (g : gd len s) : gd len (sFail len a s) := by
  rcases gd_e g with e | ⟨f, e⟩
  · rw [e, sFail_n]; exact gd_d _ _
  · rw [e, sFail_d]; exact gd_d _ _
theorem gd_num {len : Nat} {T : Nat → Nat} {s : SS} (n gr : Nat) (g : gd len s) : gd len (sNum len T n gr s) := by
  rcases gd_e g with e | ⟨f, e⟩
  · rw [e]
    cases z : nok len T n gr s.1 with
    | true => rw [sNum_t z]; exact gd_n _ _
    | false => rw [sNum_f z]; exact gd_d _ _
  · rw [e, sNum_d]; exact gd_d _ _
theorem gd_need {len t : Nat} {T : Nat → Nat} {s : SS} (ht : t ≤ 160) (g : gd len s) : gd len (sNeed len T t s) := by
  rcases gd_e g with e | ⟨f, e⟩
  · rw [e]
    cases z : tk len T s.1 t with
    | true => rw [sNeed_t z]; exact gd_n _ _
    | false => rw [sNeed_f z]; exact gd_d _ _
  · rw [e, sNeed_d ht]; exact gd_d _ _
theorem gd_other {len u : Nat} {T : Nat → Nat} {s : SS} (g : gd len s) : gd len (sOther len T u s) := by
  unfold sOther
  split
  · exact gd_fail _ (gd_num _ _ g)
  · exact gd_num _ _ g
theorem gd_take {len t : Nat} {T : Nat → Nat} {s : SS} (ht : t ≤ 160) (g : gd len s) : gd len (sTake len T t s) := by
  rcases gd_e g with e | ⟨f, e⟩
  · rw [e]; exact gd_n _ _
  · rw [e]
    unfold sTake
    rw [if_neg (by rw [tk_end ht]; decide)]
    exact gd_d _ _
def mO (h : AH) (len : Nat) (T : Nat → Nat) (s : SS) : Prop := (s.2 = none → MT h len T s.1 none) ∧ ∀ f, s.2 = some f → ∃ p, MT h len T p (some f)
theorem mO_n {h : AH} {len p : Nat} {T : Nat → Nat} (c : MT h len T p none) : mO h len T (p, none) := ⟨fun _ => c, (fun f q => by cases q)⟩
theorem mO_f {h : AH} {len p q f : Nat} {T : Nat → Nat} (c : MT h len T p (some f)) : mO h len T (q, some f) := ⟨(fun q => by cases q), (fun f q => by cases q; exact ⟨p, c⟩)⟩
def rfr (k : Nat) (h h' : AH) : Prop := frm [53, 67] [] h h' ∧ (∀ j, j ≠ 20 → j ≠ 21 → j ≠ 22 → h'.I 53 j = h.I 53 j) ∧ ∀ j, j < k → h'.I 67 j = h.I 67 j
theorem rfr_rf {k : Nat} {h : AH} : rfr k h h := ⟨frm_rf, fun _ _ _ _ => rfl, fun _ _ => rfl⟩
theorem rfr_tr {k : Nat} {h h1 h2 : AH} (a : rfr k h h1) (b : rfr k h1 h2) : rfr k h h2 := ⟨frm_tr a.1 b.1, fun j q1 q2 q3 => (b.2.1 j q1 q2 q3).trans (a.2.1 j q1 q2 q3), fun j q => (b.2.2 j q).trans (a.2.2 j q)⟩
theorem rfr_n {k : Nat} {h h1 : AH} (a : nfr h h1) : rfr k h h1 := ⟨frm_up a.1 (by decide) (by decide), a.2, fun j _ => by rw [frm_I a.1 (by decide)]⟩
theorem rfr_s {k i : Nat} {h h1 : AH} {x : Int32} (e : h1 = h.sI 67 i x) (hk : k ≤ i) : rfr k h h1 := by
  refine ⟨frm_wI e (by decide), fun j _ _ _ => ?_, fun j hj => ?_⟩
  · rw [e]; rfl
  · rw [e, AH.sI_I, va_up_ne _ _ (by omega)]
theorem MT_67 {h h' : AH} {len p j : Nat} {T : Nat → Nat} {ft : Option Nat} {x : Int32} (c : MT h len T p ft) (e : h' = h.sI 67 j x) : MT h' len T p ft := by
  obtain ⟨a1, a2, a3, a4, a5, a6, a7⟩ := c
  exact ⟨by rw [e]; exact a1, a2, fun i hi => by rw [e]; exact a3 i hi, by rw [e]; exact a4, a5, by rw [e]; exact a6, a7⟩
theorem MT_sp {h h' : AH} {len p p' : Nat} {T : Nat → Nat} {ft : Option Nat} (c : MT h len T p ft) (hp : p' ≤ len) (e : h' = h.sI 53 20 (nI p')) : MT h' len T p' ft := by
  obtain ⟨a1, a2, a3, a4, a5, a6, a7⟩ := c
  exact ⟨by rw [e]; exact a1, a2, fun i hi => by rw [e]; exact a3 i hi, by rw [e]; rfl, hp, by rw [e]; exact a6, a7⟩
theorem v640 {i : Nat} (h : i < 640) : vp_in (nI i) 640 := vp_in_nI h (by decide)
def mslot (h : AH) (k : Nat) (t : PT) : Prop := h.I 67 k = nI t.1 ∧ h.I 67 (k + 1) = nI t.2.1 ∧ (t.1 ≠ 42 → h.I 67 (k + 2) = nI t.2.2.1) ∧ h.I 67 (k + 3) = t.2.2.2
section PART2
variable {d : Nat} {h : AH} {len p : Nat} {T : Nat → Nat}
theorem m_isTwo {k : Nat} (hk : k + 3 < 640) (hT : ∀ i, i < len → T i ≤ 127) (hw : zWF h) (hC : MT h len T p none) : zK (d + 3) m_X11_isTwo [.ref 53, .int (nI k)] h (kI (fun x h' => x = bI (sOther len T (rd len T 2 p 0).2 (sNeed len T 44 (sNum len T 2 39 (p, none)))).2.isNone ∧ mO h' len T (sOther len T (rd len T 2 p 0).2 (sNeed len T 44 (sNum len T 2 39 (p, none)))) ∧ ((sOther len T (rd len T 2 p 0).2 (sNeed len T 44 (sNum len T 2 39 (p, none)))).2 = none → h'.I 67 (k + 1) = nI (rd len T 2 p 0).2 ∧ h'.I 67 (k + 2) = nI (rd len T 2 (sNeed len T 44 (sNum len T 2 39 (p, none))).1 0).2) ∧ rfr (k + 1) h h' ∧ h'.I 67 (k + 3) = h.I 67 (k + 3))) := by
  have hp : p ≤ 160 := Nat.le_trans hC.2.2.2.2.1 hC.2.1
  have hlen := hC.2.1
  have hb1 := rd2_b (len := len) (T := T) p
  refine r_X11_isTwo_0 _ hw (use_kI (m_isNumber (by decide) (by decide) (by decide) hT hw hC) (fun x h1 hw1 ⟨a1, a2, a3, a4⟩ => ?_))
  subst a1
  cases e1 : nok len T 2 39 p with
  | false =>
    rw [e1, if_neg (by decide)] at a2
    have E : sOther len T (rd len T 2 p 0).2 (sNeed len T 44 (sNum len T 2 39 (p, none))) = (len, some p) := by rw [sNum_f e1, sNeed_d (by decide), sOther_d]
    rw [E]
    refine ⟨fun q => absurd bf0 q, fun _ => mk_kI hw1 ⟨rfl, mO_f a2, (fun q => by cases q), rfr_n a4, ?_⟩⟩
    rw [frm_I a4.1 (by decide)]
  | true =>
    rw [e1, if_pos rfl] at a2
    rw [nI_add]
    refine ⟨fun _ => ⟨v640 (by omega), fun h5 q5 => ?_⟩, fun q => absurd q bt0⟩
    rw [cl_n (show k + 1 < 640 by omega) (by decide), a3] at q5
    have hw5 := wf_I q5 hw1
    have c5 := MT_67 a2 q5
    have f5 : rfr (k + 1) h h5 := rfr_tr (rfr_n a4) (rfr_s q5 (Nat.le_refl _))
    have z5 : h5.I 67 (k + 1) = nI (rd len T 2 p 0).2 := by rw [q5, AH.sI_I, va_up_self]
    have y5 : h5.I 67 (k + 3) = h.I 67 (k + 3) := by rw [q5, AH.sI_I, va_up_ne _ _ (by omega), frm_I a4.1 (by decide)]
    rw [sNum_t e1]
    generalize (rd len T 2 p 0).2 = u at *
    generalize (rd len T 2 p 0).1 = p1 at *
    clear q5 a3 a2
    refine use_kI (m_isSign (by decide) hw5 c5) (fun x7 h6 hw6 ⟨b1, b2, b3, b4⟩ => ?_)
    subst b1
    have f6 : rfr (k + 1) h h6 := rfr_tr f5 (rfr_n ⟨b3, fun j j1 j2 _ => b4 j j1 j2⟩)
    have z6 : h6.I 67 = h5.I 67 := frm_I b3 (by decide)
    cases e2 : tk len T p1 44 with
    | false =>
      rw [e2, if_neg (by decide), if_neg (by decide)] at b2
      rw [sNeed_f e2, sOther_d]
      exact ⟨fun q => absurd bf0 q, fun _ => mk_kI hw6 ⟨rfl, mO_f b2, (fun q => by cases q), f6, by rw [z6]; exact y5⟩⟩
    | true =>
      rw [e2, if_pos rfl, if_pos rfl] at b2
      rw [sNeed_t e2]
      have hb2 := rd2_b (len := len) (T := T) (p1 + 1)
      have hp1 := tk_lt (by decide) e2
      refine ⟨fun _ => use_kI (m_isNumber (by decide) (by decide) (by decide) hT hw6 b2) (fun x10 h9 hw9 ⟨d1, d2, d3, d4⟩ => ?_), fun q => absurd q bt0⟩
      subst d1
      have f9 := rfr_tr f6 (rfr_n d4)
      have z9 : h9.I 67 = h6.I 67 := frm_I d4.1 (by decide)
      cases e3 : nok len T 2 39 (p1 + 1) with
      | false =>
        rw [e3, if_neg (by decide)] at d2
        rw [sOther_f e3]
        exact ⟨fun q => absurd bf0 q, fun _ => mk_kI hw9 ⟨rfl, mO_f d2, (fun q => by cases q), f9, by rw [z9, z6]; exact y5⟩⟩
      | true =>
        rw [e3, if_pos rfl] at d2
        rw [nI_add]
        refine ⟨fun _ => ⟨v640 (by omega), fun h13 q13 => ⟨v640 (by omega), ?_⟩⟩, fun q => absurd q bt0⟩
        rw [cl_n (show k + 2 < 640 by omega) (by decide), d3] at q13
        have hw13 := wf_I q13 hw9
        have c13 := MT_67 d2 q13
        have f13 := rfr_tr f9 (rfr_s (k := k + 1) q13 (by omega))
        have w1 : h13.I 67 (k + 1) = nI u := by rw [q13, AH.sI_I, va_up_ne _ _ (by omega), z9, z6]; exact z5
        have w2 : h13.I 67 (k + 2) = nI (rd len T 2 (p1 + 1) 0).2 := by rw [q13, AH.sI_I, va_up_self]
        have w3 : h13.I 67 (k + 3) = h.I 67 (k + 3) := by rw [q13, AH.sI_I, va_up_ne _ _ (by omega), z9, z6]; exact y5
        have w4 : h13.I 53 22 = nI (rd len T 2 (p1 + 1) 0).2 := by rw [q13]; exact d3
        rw [cl_n (show k + 1 < 640 by omega) (by decide), w1, w4, b2.2.2.2.1, ne_eq, nI_eqE (by omega) (by omega)]
        refine ⟨fun z => ?_, fun z => use_kI (m_fails (by omega) hw13 c13) (fun x17 h16 hw16 ⟨g1, g2, g3, g4⟩ => ⟨fun _ => ?_, fun q => absurd (g1.trans nI_0) q⟩)⟩
        · rw [sOther_t e3 (fun q => z q.symm)]
          exact mk_kI hw13 ⟨rfl, mO_n c13, fun _ => ⟨w1, w2⟩, f13, w3⟩
        · rw [sOther_s e3 z.symm]
          exact mk_kI hw16 ⟨rfl, mO_f g2, (fun q => by cases q), rfr_tr f13 (rfr_n ⟨g3, fun j _ j2 _ => g4 j j2⟩), by rw [frm_I g3 (by decide)]; exact w3⟩
end PART2
