/-! THE LISTS -/
def LSTat (h : AH) (l : Nat) : Prop := h.P 39 l = some (41 + 2 * l) ∧ h.I (41 + 2 * l) 0 = bI (decide (l < 4)) ∧ ((h.I (41 + 2 * l) 2 = nI 0 ∧ h.I (41 + 2 * l) 3 = nI 0 ∧ h.I 69 l = -1) ∨ (∃ n, n ≤ 60 ∧ h.I (41 + 2 * l) 2 = nI 1 ∧ h.I (41 + 2 * l) 3 = nI n ∧ h.I 69 l = nI n ∧ ∀ i, i < 60 → h.L (42 + 2 * l) i = h.L 70 (60 * l + i)))
def LST (h : AH) : Prop := ∀ l, l < 6 → LSTat h l
def lsI : List Nat := [41, 43, 45, 47, 49, 51, 69]
def lsL : List Nat := [42, 44, 46, 48, 50, 52, 70]
def oth (l : Nat) (h h' : AH) : Prop := frm lsI lsL h h' ∧ ∀ m, m < 6 → m ≠ l → h'.I (41 + 2 * m) = h.I (41 + 2 * m) ∧ h'.L (42 + 2 * m) = h.L (42 + 2 * m) ∧ h'.I 69 m = h.I 69 m ∧ ∀ i, i < 60 → h'.L 70 (60 * m + i) = h.L 70 (60 * m + i)
theorem oth_rf {l : Nat} {h : AH} : oth l h h := ⟨frm_rf, fun _ _ _ => ⟨rfl, rfl, rfl, fun _ _ => rfl⟩⟩
theorem oth_tr {l : Nat} {h h1 h2 : AH} (a : oth l h h1) (b : oth l h1 h2) : oth l h h2 :=
  ⟨frm_tr a.1 b.1, fun m hm hl => by
    obtain ⟨a1, a2, a3, a4⟩ := a.2 m hm hl
    obtain ⟨b1, b2, b3, b4⟩ := b.2 m hm hl
    exact ⟨b1.trans a1, b2.trans a2, b3.trans a3, fun i hi => (b4 i hi).trans (a4 i hi)⟩⟩
theorem memI : ∀ l, l < 6 → 41 + 2 * l ∈ lsI := by decide
theorem memL : ∀ l, l < 6 → 42 + 2 * l ∈ lsL := by decide
theorem oth_R {l j : Nat} {h h' : AH} {x : Int32} (hl : l < 6) (e : h' = h.sI (41 + 2 * l) j x) : oth l h h' :=
  ⟨frm_wI e (memI l hl), fun m hm hml => by
    refine ⟨?_, by rw [e]; rfl, ?_, fun _ _ => by rw [e]; rfl⟩
    · rw [e]; exact va_up_ne _ _ (by omega)
    · rw [e]; show va_up h.I (41 + 2 * l) _ 69 m = _; rw [va_up_ne _ _ (by omega)]⟩
theorem oth_C {l : Nat} {h h' : AH} {f : Nat → Int64} (hl : l < 6) (e : h' = h.wL (42 + 2 * l) f) : oth l h h' :=
  ⟨frm_wL e (memL l hl), fun m hm hml => by
    refine ⟨by rw [e]; rfl, ?_, by rw [e]; rfl, fun i _ => ?_⟩
    · rw [e]; exact va_up_ne _ _ (by omega)
    · rw [e]; show va_up h.L (42 + 2 * l) f 70 _ = _; rw [va_up_ne _ _ (by omega)]⟩
theorem oth_69 {l : Nat} {h h' : AH} {x : Int32} (e : h' = h.sI 69 l x) : oth l h h' :=
  ⟨frm_wI e (by decide), fun m hm hml => by
    refine ⟨?_, by rw [e]; rfl, ?_, fun _ _ => by rw [e]; rfl⟩
    · rw [e]; exact va_up_ne _ _ (by omega)
    · rw [e, AH.sI_I, va_up_ne _ _ hml]⟩
theorem oth_70 {l i : Nat} {h h' : AH} {x : Int64} (hi : i < 60) (e : h' = h.sL 70 (60 * l + i) x) : oth l h h' :=
  ⟨frm_wL e (by decide), fun m hm hml => by
    refine ⟨by rw [e]; rfl, ?_, by rw [e]; rfl, fun j hj => ?_⟩
    · rw [e]; exact va_up_ne _ _ (by omega)
    · rw [e, AH.sL_L, va_up_ne _ _ (by omega)]⟩
theorem LST_oth {l : Nat} {h h' : AH} (hL : LST h) (a : oth l h h') (q : LSTat h' l) : LST h' := by
  intro m hm
  by_cases e : m = l
  · rw [e]; exact q
  · obtain ⟨a1, a2, a3, a4⟩ := a.2 m hm e
    obtain ⟨b1, b2, b3⟩ := hL m hm
    refine ⟨by rw [a.1.2.2.2.1]; exact b1, by rw [a1]; exact b2, ?_⟩
    rw [a1, a2, a3]
    rcases b3 with b3 | ⟨n, c1, c2, c3, c4, c5⟩
    · exact Or.inl b3
    · exact Or.inr ⟨n, c1, c2, c3, c4, fun i hi => by rw [a4 i hi]; exact c5 i hi⟩
theorem LST_frm {h h' : AH} {SI SL : List Nat} (hf : frm SI SL h h') (hL : LST h) (h1 : ∀ k ∈ lsI, k ∉ SI) (h2 : ∀ k ∈ lsL, k ∉ SL) : LST h' := by
  intro l hl
  unfold LSTat
  rw [hf.2.2.2.1, frm_I hf (h1 _ (memI l hl)), frm_I hf (h1 69 (by decide)), frm_L hf (h2 _ (memL l hl)), frm_L hf (h2 70 (by decide))]
  exact hL l hl
def lsB (x : Int32) : Bool := decide (¬ x < nI 0) && decide (¬ nI 5 < x)
theorem lsB_iff {x : Int32} : lsB x = true ↔ ∃ l, l < 6 ∧ x = nI l := by
  unfold lsB
  rw [Bool.and_eq_true, decide_eq_true_iff, decide_eq_true_iff, Int32.lt_iff_toInt_lt, Int32.lt_iff_toInt_lt]
  constructor
  · rintro ⟨q1, q2⟩
    have q1 : ¬ x.toInt < 0 := q1
    have q2 : ¬ 5 < x.toInt := q2
    exact ⟨x.toInt.toNat, by omega, zr_int (by omega)⟩
  · rintro ⟨l, hl, rfl⟩
    rw [nI_toInt (by omega)]
    exact ⟨by show ¬ (l : Int) < 0; omega, by show ¬ 5 < (l : Int); omega⟩
theorem plB_iff {x : Int32} {n : Nat} (hn : n ≤ 60) : (decide (¬ x < nI 0) && decide (¬ nI n - nI 1 < x)) = true ↔ ∃ k, k < n ∧ x = nI k := by
  rw [Bool.and_eq_true, decide_eq_true_iff, decide_eq_true_iff, Int32.lt_iff_toInt_lt, Int32.lt_iff_toInt_lt, pk_sub_toInt (by omega) (by decide)]
  constructor
  · rintro ⟨q1, q2⟩
    have q1 : ¬ x.toInt < 0 := q1
    exact ⟨x.toInt.toNat, by omega, zr_int (by omega)⟩
  · rintro ⟨l, hl, rfl⟩
    rw [nI_toInt (by omega)]
    exact ⟨by show ¬ (l : Int) < 0; omega, by omega⟩
section LISTS
variable {d : Nat} {h : AH} {c : Nat}
theorem zrow {l : Nat} (hl : l < 6) : zRow (41 + 2 * l) := ⟨l, hl, rfl⟩
theorem v6r {l : Nat} (hl : l < 6) : vp_in (nI l) 6 := vp_in_nI hl (by decide)
end LISTS
