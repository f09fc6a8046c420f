/-! THE LISTS -/
def LSTat (h : AH) (l : Nat) : Prop := h.P 39 l = some (41 + 2 * l) ∧ h.I (41 + 2 * l) 0 = bI (decide (l < 4)) ∧ ((h.I (41 + 2 * l) 2 = nI 0 ∧ h.I (41 + 2 * l) 3 = nI 0 ∧ h.I 69 l = -1) ∨ (∃ n, n ≤ 60 ∧ h.I (41 + 2 * l) 2 = nI 1 ∧ h.I (41 + 2 * l) 3 = nI n ∧ h.I 69 l = nI n ∧ ∀ i, i < 60 → h.L (42 + 2 * l) i = h.L 70 (60 * l + i)))
def LST (h : AH) : Prop := ∀ l, l < 6 → LSTat h l
def lsI : List Nat := [41, 43, 45, 47, 49, 51, 69]
def lsL : List Nat := [42, 44, 46, 48, 50, 52, 70]
def oth (l : Nat) (h h' : AH) : Prop := frm lsI lsL h h' ∧ ∀ m, m < 6 → m ≠ l → h'.I (41 + 2 * m) = h.I (41 + 2 * m) ∧ h'.L (42 + 2 * m) = h.L (42 + 2 * m) ∧ h'.I 69 m = h.I 69 m ∧ ∀ i, i < 60 → h'.L 70 (60 * m + i) = h.L 70 (60 * m + i)
theorem oth_rf {l : Nat} {h : AH} : oth l h h := ⟨frm_rf, fun _ _ _ => ⟨rfl, rfl, rfl, fun _ _ => rfl⟩⟩
theorem oth_tr {l : Nat} {h h1 h2 : AH} (a : oth l h h1) (b : oth l h1 h2) : oth l h h2 :=
  ⟨frm_tr a.1 b.1, fun m hm hl => by
    obtain ⟨a1, a2, a3, a4⟩ := a.2 m hm hl
    obtain ⟨b1, b2, b3, b4⟩ := b.2 m hm hl
    exact ⟨b1.trans a1, b2.trans a2, b3.trans a3, fun i hi => (b4 i hi).trans (a4 i hi)⟩⟩
theorem memI : ∀ l, l < 6 → 41 + 2 * l ∈ lsI := by decide
theorem memL : ∀ l, l < 6 → 42 + 2 * l ∈ lsL := by decide
theorem oth_R {l j : Nat} {h h' : AH} {x : Int32} (hl : l < 6) (e : h' = h.sI (41 + 2 * l) j x) : oth l h h' :=
  ⟨frm_wI e (memI l hl), fun m hm hml => by
    refine ⟨?_, by rw [e]; rfl, ?_, fun _ _ => by rw [e]; rfl⟩
    · rw [e]; exact va_up_ne _ _ (by omega)
    · rw [e]; show va_up h.I (41 + 2 * l) _ 69 m = _; rw [va_up_ne _ _ (by omega)]⟩
theorem oth_C {l : Nat} {h h' : AH} {f : Nat → Int64} (hl : l < 6) (e : h' = h.wL (42 + 2 * l) f) : oth l h h' :=
  ⟨frm_wL e (memL l hl), fun m hm hml => by
    refine ⟨by rw [e]; rfl, ?_, by rw [e]; rfl, fun i _ => ?_⟩
    · rw [e]; exact va_up_ne _ _ (by omega)
    · rw [e]; show va_up h.L (42 + 2 * l) f 70 _ = _; rw [va_up_ne _ _ (by omega)]⟩
theorem oth_69 {l : Nat} {h h' : AH} {x : Int32} (e : h' = h.sI 69 l x) : oth l h h' :=
  ⟨frm_wI e (by decide), fun m hm hml => by
    refine ⟨?_, by rw [e]; rfl, ?_, fun _ _ => by rw [e]; rfl⟩
    · rw [e]; exact va_up_ne _ _ (by omega)
    · rw [e, AH.sI_I, va_up_ne _ _ hml]⟩
theorem oth_70 {l i : Nat} {h h' : AH} {x : Int64} (hi : i < 60) (e : h' = h.sL 70 (60 * l + i) x) : oth l h h' :=
  ⟨frm_wL e (by decide), fun m hm hml => by
    refine ⟨by rw [e]; rfl, ?_, by rw [e]; rfl, fun j hj => ?_⟩
    · rw [e]; exact va_up_ne _ _ (by omega)
    · rw [e, AH.sL_L, va_up_ne _ _ (by omega)]⟩
theorem LST_oth {l : Nat} {h h' : AH} (hL : LST h) (a : oth l h h') (q : LSTat h' l) : LST h' := by
  intro m hm
  by_cases e : m = l
  · rw [e]; exact q
  · obtain ⟨a1, a2, a3, a4⟩ := a.2 m hm e
    obtain ⟨b1, b2, b3⟩ := hL m hm
    refine ⟨by rw [a.1.2.2.2.1]; exact b1, by rw [a1]; exact b2, ?_⟩
    rw [a1, a2, a3]
    rcases b3 with b3 | ⟨n, c1, c2, c3, c4, c5⟩
    · exact Or.inl b3
    · exact Or.inr ⟨n, c1, c2, c3, c4, fun i hi => by rw [a4 i hi]; exact c5 i hi⟩
theorem LST_frm {h h' : AH} {SI SL : List Nat} (hf : frm SI SL h h') (hL : LST h) (h1 : ∀ k ∈ lsI, k ∉ SI) (h2 : ∀ k ∈ lsL, k ∉ SL) : LST h' := by
  intro l hl
  unfold LSTat
  rw [hf.2.2.2.1, frm_I hf (h1 _ (memI l hl)), frm_I hf (h1 69 (by decide)), frm_L hf (h2 _ (memL l hl)), frm_L hf (h2 70 (by decide))]
  exact hL l hl
def lsB (x : Int32) : Bool := decide (¬ x < nI 0) && decide (¬ nI 5 < x)
theorem lsB_iff {x : Int32} : lsB x = true ↔ ∃ l, l < 6 ∧ x = nI l := by
  unfold lsB
  rw [Bool.and_eq_true, decide_eq_true_iff, decide_eq_true_iff, Int32.lt_iff_toInt_lt, Int32.lt_iff_toInt_lt]
  constructor
  · rintro ⟨q1, q2⟩
    have q1 : ¬ x.toInt < 0 := q1
    have q2 : ¬ 5 < x.toInt := q2
    exact ⟨x.toInt.toNat, by omega, zr_int (by omega)⟩
  · rintro ⟨l, hl, rfl⟩
    rw [nI_toInt (by omega)]
    exact ⟨by show ¬ (l : Int) < 0; omega, by show ¬ 5 < (l : Int); omega⟩
theorem plB_iff {x : Int32} {n : Nat} (hn : n ≤ 60) : (decide (¬ x < nI 0) && decide (¬ nI n - nI 1 < x)) = true ↔ ∃ k, k < n ∧ x = nI k := by
  rw [Bool.and_eq_true, decide_eq_true_iff, decide_eq_true_iff, Int32.lt_iff_toInt_lt, Int32.lt_iff_toInt_lt, pk_sub_toInt (by omega) (by decide)]
  constructor
  · rintro ⟨q1, q2⟩
    have q1 : ¬ x.toInt < 0 := q1
    exact ⟨x.toInt.toNat, by omega, zr_int (by omega)⟩
  · rintro ⟨l, hl, rfl⟩
    rw [nI_toInt (by omega)]
    exact ⟨by show ¬ (l : Int) < 0; omega, by omega⟩
section LISTS
variable {d : Nat} {h : AH} {c : Nat}
theorem zrow {l : Nat} (hl : l < 6) : zRow (41 + 2 * l) := ⟨l, hl, rfl⟩
theorem v6r {l : Nat} (hl : l < 6) : vp_in (nI l) 6 := vp_in_nI hl (by decide)
theorem row_no {x : Int32} {A : Prop} {B : Nat → Prop} (hw : zWF h) (hx : lsB x = false) (k : A) : zK (d + 1) m_X10_rowOf [.ref 1, .int x] h (pRow h A B) := by
  refine r_X10_rowOf_0 _ hw ⟨fun _ => ⟨rfl, Or.inl ⟨rfl, k⟩⟩, fun q1 => ⟨fun _ => ⟨rfl, Or.inl ⟨rfl, k⟩⟩, fun q2 => ?_⟩⟩
  exfalso
  have : lsB x = true := by
    rw [lsB_iff]
    rw [Int32.lt_iff_toInt_lt] at q1
    rw [Int32.le_iff_toInt_le] at q2
    have q1 : ¬ x.toInt < 0 := q1
    have q2 : ¬ 6 ≤ x.toInt := q2
    exact ⟨x.toInt.toNat, by omega, zr_int (by omega)⟩
  rw [this] at hx
  cases hx
theorem row_at {l : Nat} {A : Prop} {B : Nat → Prop} (hw : zWF h) (hL : LST h) (hl : l < 6) (k : B (41 + 2 * l)) : zK (d + 1) m_X10_rowOf [.ref 1, .int (nI l)] h (pRow h A B) := by
  refine r_X10_rowOf_0 _ hw ⟨fun q => absurd q (nI_lt0 (by omega)), fun _ => ⟨fun q => absurd q (nI_ge hl (by decide)), fun _ => ⟨v6r hl, 41 + 2 * l, ?_, zrow hl, rfl, Or.inr ⟨_, rfl, zrow hl, k⟩⟩⟩⟩
  rw [cl_n hl (by decide)]
  exact (hL l hl).1
theorem m_isList (x : Int32) : zK (d + 2) m_X11_isList [.int x] h (pI h (fun y => y = bI (lsB x))) :=
  r_X11_isList_0 x (use_pI (m_isIn _ _ _) ⟨bI01 _, mk_pI rfl⟩)
theorem m_isWide {l : Nat} (hl : l < 6) : zK (d + 1) m_X11_isWide [.int (nI l)] h (pI h (fun y => y = bI (!decide (l < 4)))) := by
  refine r_X11_isWide_0 _ ⟨fun q => mk_pI ?_, fun q => mk_pI ?_⟩ <;> rw [nI_leE (by omega) (by decide)] at q
  · rw [decide_eq_true (show l < 4 by omega)]; rfl
  · rw [decide_eq_false (show ¬ l < 4 by omega)]; rfl
theorem m_wrong_no {x : Int32} (hw : zWF h) (hx : lsB x = false) : zK (d + 3) m_X11_wrong [.ref 53, .int x] h (pI h (fun y => y = -1)) := by
  refine r_X11_wrong_0 _ hw (use_pI (m_isList _) ?_)
  rw [hx]
  exact ⟨fun q => absurd bf0 q, fun _ => mk_pI rfl⟩
theorem m_wrong_at {l : Nat} (hw : zWF h) (hl : l < 6) : zK (d + 3) m_X11_wrong [.ref 53, .int (nI l)] h (pI h (fun y => y = if 0 ≤ h.I 69 l then nI 0 else -11)) := by
  refine r_X11_wrong_0 _ hw (use_pI (m_isList _) ?_)
  rw [lsB_iff.mpr ⟨l, hl, rfl⟩, cl_n hl (by decide)]
  exact ⟨fun _ => ⟨v6r hl, fun q => mk_pI (if_pos q).symm, fun q => mk_pI (if_neg q).symm⟩, fun q => absurd q bt0⟩
theorem c_places_in {l n k : Nat} (hw : zWF h) (hl : l < 6) (hn : n ≤ 60) (e : h.I (41 + 2 * l) 3 = nI n) (hk : k < n) : zK (d + 1) m_X8_placesFrom [.ref (41 + 2 * l), .int (nI k)] h (pI h (fun y => y = nI (n - k))) := by
  refine r_X8_placesFrom_0 _ _ hw (zrow hl) ⟨fun q => absurd q (nI_lt0 (by omega)), fun _ => ?_⟩
  rw [e, nI_ltE (by omega) (by omega), nI_subE (by omega)]
  exact ⟨fun _ => mk_pI rfl, fun q => absurd hk q⟩
theorem c_places_out {l n : Nat} {x : Int32} (hw : zWF h) (hl : l < 6) (hn : n ≤ 60) (e : h.I (41 + 2 * l) 3 = nI n) (hk : ¬ ∃ k, k < n ∧ x = nI k) : zK (d + 1) m_X8_placesFrom [.ref (41 + 2 * l), .int x] h (pI h (fun y => y = nI 0)) := by
  refine r_X8_placesFrom_0 _ _ hw (zrow hl) ⟨fun q => mk_pI rfl, fun q1 => ⟨fun q2 => ?_, fun _ => mk_pI rfl⟩⟩
  exfalso
  rw [e] at q2
  rw [Int32.lt_iff_toInt_lt] at q1 q2
  rw [nI_toInt (by omega)] at q2
  have q1 : ¬ x.toInt < 0 := q1
  exact hk ⟨x.toInt.toNat, by omega, zr_int (by omega)⟩
theorem p_list (x y : Int32) (hw : zWF h) (hL : LST h) : zK (d + 10) m_X10_list [.ref 1, .int x, .int y] h (kI fun a h1 => zK (d + 10) m_X11_list [.ref 53, .int x, .int y] h1 (kI fun b h2 => a = b ∧ LST h2 ∧ frm lsI lsL h h2)) := by
  cases hx : lsB x with
  | false =>
    refine r_X10_list_0 _ _ hw (row_no hw hx (mk_kI hw (r_X11_list_0 _ _ hw (use_pI (m_isList _) ?_))))
    rw [hx]
    exact ⟨fun q => absurd bf0 q, fun _ => mk_kI hw ⟨rfl, hL, frm_rf⟩⟩
  | true =>
    obtain ⟨l, hl, rfl⟩ := lsB_iff.mp hx
    refine r_X10_list_0 _ _ hw (row_at hw hL hl ⟨fun q1 => ⟨fun q2 => ?_, fun q2 => mk_kI hw (r_X11_list_0 _ _ hw (use_pI (m_isList _) ?_))⟩, fun q1 => mk_kI hw (r_X11_list_0 _ _ hw (use_pI (m_isList _) ?_))⟩)
    · obtain ⟨n, hn, rfl⟩ : ∃ n, n ≤ 60 ∧ y = nI n := by
        rw [Int32.le_iff_toInt_le] at q1 q2
        have q1 : y.toInt ≤ 60 := q1
        have q2 : 0 ≤ y.toInt := q2
        exact ⟨y.toInt.toNat, by omega, zr_int (by omega)⟩
      refine r_X8_begin_0 _ _ hw (zrow hl) (fun h1 e1 h2 e2 => ?_)
      have hw2 : zWF h2 := wf_I e2 (wf_I e1 hw)
      have e42 : 41 + 2 * l + 1 = 42 + 2 * l := by omega
      refine use_kV (c_fillL (n0 := 60) _ hw2 (by decide) (row_sh1 hw2 (zrow hl))) (fun h3 hw3 ⟨g, g1, g2, g3⟩ => mk_kV hw3 (mk_kI hw3 (r_X11_list_0 _ _ hw3 (use_pI (m_isList _) ?_))))
      rw [e42] at g1
      rw [hx, cl_n hl (by decide)]
      refine ⟨fun _ => ⟨fun _ => ⟨fun _ => ⟨v6r hl, fun h6 e6 => ?_⟩, fun z => absurd q2 z⟩, fun z => absurd q1 z⟩, fun z => absurd z bt0⟩
      have hw6 : zWF h6 := wf_I e6 hw3
      have o6 : oth l h h6 := oth_tr (oth_R hl e1) (oth_tr (oth_R hl e2) (oth_tr (oth_C hl g1) (oth_69 e6)))
      have key : ∀ i, i ≤ 60 → ∀ k, zWF k → oth l h6 k → k.I (41 + 2 * l) = h6.I (41 + 2 * l) → k.L (42 + 2 * l) = h6.L (42 + 2 * l) → k.I 69 = h6.I 69 → (∀ j, j < i → k.L 70 (60 * l + j) = 0) → zQ none m_X11_list (d + 9 + 1) 34 [(0, .ref 53), (1, .int (nI l)), (3, .int (nI i))] [] k (kI fun b h2 => nI 1 = b ∧ LST h2 ∧ frm lsI lsL h h2) := by
        refine nat_down ?_ (fun i hi ih => ?_)
        · intro k hk o k1 k2 k3 k4
          refine r_X11_list_34 _ _ hk ⟨fun _ => mk_kI hk ⟨rfl, LST_oth hL (oth_tr o6 o) ?_, (oth_tr o6 o).1⟩, fun z => absurd ((nI_leE (by decide) (by decide)).mpr (Nat.le_refl _)) z⟩
          obtain ⟨b1, b2, -⟩ := hL l hl
          refine ⟨by rw [(oth_tr o6 o).1.2.2.2.1]; exact b1, ?_, Or.inr ⟨n, hn, ?_, ?_, ?_, fun i hi => ?_⟩⟩
          · rw [k1, e6]
            show va_up h3.I 69 _ (41 + 2 * l) 0 = _
            rw [va_up_ne _ _ (by omega), g1]
            show h2.I (41 + 2 * l) 0 = _
            rw [e2, AH.sI_I, va_up_ne _ _ (by decide), e1, AH.sI_I, va_up_ne _ _ (by decide)]
            exact b2
          · rw [k1, e6]
            show va_up h3.I 69 _ (41 + 2 * l) 2 = _
            rw [va_up_ne _ _ (by omega), g1]
            show h2.I (41 + 2 * l) 2 = _
            rw [e2, AH.sI_I, va_up_ne _ _ (by decide), e1, AH.sI_I, va_up_self]
          · rw [k1, e6]
            show va_up h3.I 69 _ (41 + 2 * l) 3 = _
            rw [va_up_ne _ _ (by omega), g1]
            show h2.I (41 + 2 * l) 3 = _
            rw [e2, AH.sI_I, va_up_self]
          · rw [k3, e6, AH.sI_I, va_up_self]
          · rw [k2, e6]
            show h3.L (42 + 2 * l) i = _
            rw [g1]
            show va_up h2.L (42 + 2 * l) g (42 + 2 * l) i = _
            rw [va_up_self, g2 i hi, k4 i hi]
        · intro k hk o k1 k2 k3 k4
          refine r_X11_list_34 _ _ hk ⟨fun z => absurd ((nI_leE (by decide) (by omega)).mp z) (by omega), fun _ => ?_⟩
          rw [nI_mulE, nI_add, nI_add, cl_n (show 60 * l + i < 360 by omega) (by decide)]
          refine ⟨vp_in_nI (by omega) (by decide), fun k' e => ih k' (wf_L e hk) (oth_tr o (oth_70 hi e)) (by rw [e]; exact k1) ?_ (by rw [e]; exact k3) (fun j hj => ?_)⟩
          · rw [e]
            show va_up k.L 70 _ (42 + 2 * l) = _
            rw [va_up_ne _ _ (by omega)]
            exact k2
          · rw [e, AH.sL_L]
            by_cases ej : j = i
            · rw [ej, va_up_self]
            · rw [va_up_ne _ _ (by omega)]
              exact k4 j (by omega)
      exact key 0 (by decide) h6 hw6 oth_rf rfl rfl rfl (fun j hj => absurd hj (Nat.not_lt_zero j))
    · rw [hx]
      exact ⟨fun _ => ⟨fun _ => ⟨fun z => absurd z q2, fun _ => mk_kI hw ⟨rfl, hL, frm_rf⟩⟩, fun z => absurd q1 z⟩, fun z => absurd z bt0⟩
    · rw [hx]
      exact ⟨fun _ => ⟨fun z => absurd z q1, fun _ => mk_kI hw ⟨rfl, hL, frm_rf⟩⟩, fun z => absurd z bt0⟩
theorem p_get (x y : Int32) (hw : zWF h) (hL : LST h) : zK (d + 10) m_X10_get [.ref 1, .int x, .int y] h (kL fun a h1 => zK (d + 10) m_X11_get [.ref 53, .int x, .int y] h1 (kL fun b h2 => a = b ∧ LST h2 ∧ frm lsI lsL h h2)) := by
  cases hx : lsB x with
  | false =>
    refine r_X10_get_0 _ _ hw (row_no hw hx (mk_kL hw (r_X11_get_0 _ _ hw (use_pI (m_wrong_no hw hx) ⟨fun _ => mk_kL hw ⟨rfl, hL, frm_rf⟩, fun q => absurd q (by decide)⟩))))
  | true =>
    obtain ⟨l, hl, rfl⟩ := lsB_iff.mp hx
    refine r_X10_get_0 _ _ hw (row_at hw hL hl ?_)
    obtain ⟨b1, b2, ⟨c1, c2, c3⟩ | ⟨n, hn, c1, c2, c3, c4⟩⟩ := hL l hl
    · refine use_pI (c_places_out hw hl (n := 0) (by decide) c2 (fun ⟨k, hk, _⟩ => absurd hk (Nat.not_lt_zero k))) ⟨fun q => absurd i0_eq0 q, fun _ => mk_kL hw (r_X11_get_0 _ _ hw (use_pI (m_wrong_at hw hl) ?_))⟩
      rw [c3, if_neg (by decide)]
      exact ⟨fun _ => mk_kL hw ⟨rfl, hL, frm_rf⟩, fun q => absurd q (by decide)⟩
    · have M : ∀ v : Int64, ((∃ k, k < n ∧ y = nI k ∧ v = h.L 70 (60 * l + k)) ∨ ((¬ ∃ k, k < n ∧ y = nI k) ∧ v = (-9223372036854775808 : Int64))) → zK (d + 10) m_X11_get [.ref 53, .int (nI l), .int y] h (kL fun b h2 => v = b ∧ LST h2 ∧ frm lsI lsL h h2) := by
        intro v hv
        refine r_X11_get_0 _ _ hw (use_pI (m_wrong_at hw hl) ?_)
        rw [c3, if_pos (nI_0le (by omega)), cl_n hl (by decide), c3]
        refine ⟨fun q => absurd i0_eq0 q, fun _ => ⟨v6r hl, use_pI (m_isIn _ _ _) ⟨fun q => ?_, fun q => ?_⟩⟩⟩
        · obtain ⟨k, hk, rfl⟩ := (plB_iff hn).mp (bTb q)
          rcases hv with ⟨k', hk', e, hv⟩ | ⟨no, _⟩
          · have : k = k' := (nI_eqE (by omega) (by omega)).mp e
            subst this
            rw [nI_mulE, nI_add, cl_n (show 60 * l + k < 360 by omega) (by decide)]
            exact ⟨vp_in_nI (by omega) (by decide), mk_kL hw ⟨hv, hL, frm_rf⟩⟩
          · exact absurd ⟨k, hk, rfl⟩ no
        · rcases hv with ⟨k', hk', e, hv⟩ | ⟨_, hv⟩
          · exact absurd (bFb q) (by rw [(plB_iff hn).mpr ⟨k', hk', e⟩]; decide)
          · exact mk_kL hw ⟨hv, hL, frm_rf⟩
      by_cases hy : ∃ k, k < n ∧ y = nI k
      · obtain ⟨k, hk, rfl⟩ := hy
        refine use_pI (c_places_in hw hl hn c2 hk) ⟨fun _ => ⟨vp_in_nI (by omega) (by decide), mk_kL hw (M _ (Or.inl ⟨k, hk, rfl, ?_⟩))⟩, fun q => absurd ((nI_eq0 (by omega)).mp q) (by omega)⟩
        rw [cl_n (show k < 60 by omega) (by decide), show 41 + 2 * l + 1 = 42 + 2 * l by omega]
        exact c4 k (by omega)
      · exact use_pI (c_places_out hw hl hn c2 hy) ⟨fun q => absurd i0_eq0 q, fun _ => mk_kL hw (M _ (Or.inr ⟨hy, rfl⟩))⟩
theorem p_set (x y : Int32) (v : Int64) (hw : zWF h) (hL : LST h) : zK (d + 10) m_X10_set [.ref 1, .int x, .int y, .long v] h (kI fun a h1 => zK (d + 10) m_X11_set [.ref 53, .int x, .int y, .long v] h1 (kI fun b h2 => a = b ∧ LST h2 ∧ frm lsI lsL h h2)) := by
  cases hx : lsB x with
  | false =>
    refine r_X10_set_0 _ _ _ hw (row_no hw hx (mk_kI hw (r_X11_set_0 _ _ _ hw (use_pI (m_wrong_no hw hx) ⟨fun q => absurd q (by decide), fun _ => mk_kI hw ⟨rfl, hL, frm_rf⟩⟩))))
  | true =>
    obtain ⟨l, hl, rfl⟩ := lsB_iff.mp hx
    refine r_X10_set_0 _ _ _ hw (row_at hw hL hl ?_)
    obtain ⟨b1, b2, ⟨c1, c2, c3⟩ | ⟨n, hn, c1, c2, c3, c4⟩⟩ := hL l hl
    · rw [c1]
      refine ⟨fun q => absurd i0_eq0 q, fun _ => mk_kI hw (r_X11_set_0 _ _ _ hw (use_pI (m_wrong_at hw hl) ?_))⟩
      rw [c3, if_neg (by decide)]
      exact ⟨fun q => absurd q (by decide), fun _ => mk_kI hw ⟨rfl, hL, frm_rf⟩⟩
    · rw [c1]
      refine ⟨fun _ => ?_, fun q => absurd q i1_ne0⟩
      by_cases hy : ∃ k, k < n ∧ y = nI k
      · obtain ⟨k, hk, rfl⟩ := hy
        refine use_pI (c_places_in hw hl hn c2 hk) ⟨fun _ => ?_, fun q => absurd ((nI_eq0 (by omega)).mp q) (by omega)⟩
        have fin : ∀ (t : Int64), t = (if l < 4 then v.toInt32.toInt64 else v) → ∀ h3, h3 = h.sL (42 + 2 * l) k t → kV (fun h5 => kI (fun a h1 => zK (d + 10) m_X11_set [.ref 53, .int (nI l), .int (nI k), .long v] h1 (kI fun b h2 => a = b ∧ LST h2 ∧ frm lsI lsL h h2)) (some (.int (nI 1))) h5) none h3 := by
          intro t ht h3 e3
          have hw3 : zWF h3 := wf_L e3 hw
          have z69 : h3.I 69 l = nI n := by rw [e3]; exact c3
          refine mk_kV hw3 (mk_kI hw3 (r_X11_set_0 _ _ _ hw3 (use_pI (m_wrong_at hw3 hl) ?_)))
          rw [z69, if_pos (nI_0le (by omega)), cl_n hl (by decide), z69]
          refine ⟨fun _ => ⟨v6r hl, use_pI (m_isIn _ _ _) ?_⟩, fun q => absurd i0_eq0 q⟩
          rw [(plB_iff hn).mpr ⟨k, hk, rfl⟩]
          refine ⟨fun _ => use_pI (m_isWide hl) ?_, fun q => absurd q bt0⟩
          rw [nI_mulE, nI_add, cl_n (show 60 * l + k < 360 by omega) (by decide)]
          have fin2 : ∀ h9, h9 = h3.sL 70 (60 * l + k) t → kI (fun b h2 => nI 1 = b ∧ LST h2 ∧ frm lsI lsL h h2) (some (.int (nI 1))) h9 := by
            intro h9 e9
            have o : oth l h h9 := oth_tr (oth_C hl e3) (oth_70 (by omega) e9)
            refine mk_kI (wf_L e9 hw3) ⟨rfl, LST_oth hL o ⟨by rw [o.1.2.2.2.1]; exact b1, by rw [e9, e3]; exact b2, Or.inr ⟨n, hn, by rw [e9, e3]; exact c1, by rw [e9, e3]; exact c2, by rw [e9, e3]; exact c3, fun i hi => ?_⟩⟩, o.1⟩
            have x1 : h9.L (42 + 2 * l) = va_up (h.L (42 + 2 * l)) k t := by
              rw [e9]
              show va_up h3.L 70 _ (42 + 2 * l) = _
              rw [va_up_ne _ _ (by omega), e3, AH.sL_L]
            have x2 : h9.L 70 = va_up (h.L 70) (60 * l + k) t := by
              rw [e9, AH.sL_L, e3]
              show va_up (va_up h.L (42 + 2 * l) _ 70) _ _ = _
              rw [va_up_ne _ _ (by omega)]
            rw [x1, x2]
            by_cases ei : i = k
            · subst ei; rw [va_up_self, va_up_self]
            · rw [va_up_ne _ _ ei, va_up_ne _ _ (by omega)]; exact c4 i hi
          by_cases h4 : l < 4
          · rw [decide_eq_true h4]
            rw [if_pos h4] at ht
            rw [← ht]
            exact ⟨fun _ => ⟨vp_in_nI (by omega) (by decide), fin2⟩, fun q => absurd bf0 q⟩
          · rw [decide_eq_false h4]
            rw [if_neg h4] at ht
            rw [← ht]
            exact ⟨fun q => absurd q bt0, fun _ => ⟨vp_in_nI (by omega) (by decide), fin2⟩⟩
        refine r_X8_put_0 _ _ _ hw (zrow hl) ?_
        rw [b2, cl_n (show k < 60 by omega) (by decide), show 41 + 2 * l + 1 = 42 + 2 * l by omega]
        by_cases h4 : l < 4
        · rw [decide_eq_true h4]
          exact ⟨fun q => absurd q bt0, fun _ => ⟨vp_in_nI (by omega) (by decide), fin _ (by rw [if_pos h4])⟩⟩
        · rw [decide_eq_false h4]
          exact ⟨fun _ => ⟨vp_in_nI (by omega) (by decide), fin _ (by rw [if_neg h4])⟩, fun q => absurd bf0 q⟩
      · refine use_pI (c_places_out hw hl hn c2 hy) ⟨fun q => absurd i0_eq0 q, fun _ => mk_kI hw (r_X11_set_0 _ _ _ hw (use_pI (m_wrong_at hw hl) ?_))⟩
        rw [c3, if_pos (nI_0le (by omega)), cl_n hl (by decide), c3]
        refine ⟨fun _ => ⟨v6r hl, use_pI (m_isIn _ _ _) ⟨fun q => absurd ((plB_iff hn).mp (bTb q)) hy, fun _ => mk_kI hw ⟨rfl, hL, frm_rf⟩⟩⟩, fun q => absurd i0_eq0 q⟩
end LISTS
