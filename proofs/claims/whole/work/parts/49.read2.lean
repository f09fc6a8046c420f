def tk (len : Nat) (T : Nat → Nat) (p t : Nat) : Bool := decide (nx len T p = nI t)
theorem tk_lt {len p t : Nat} {T : Nat → Nat} (ht : t ≤ 160) (h : tk len T p t = true) : p < len := by
  unfold tk nx at h
  rw [decide_eq_true_iff] at h
  apply Classical.byContradiction
  intro q
  rw [if_neg q] at h
  exact (fi_n ht).1 h.symm
section READ2
variable {d : Nat} {h : AH} {len p : Nat} {T : Nat → Nat} {ft : Option Nat}
theorem CT_step {h' : AH} (hC : CT h len T p ft) (hp : p < len) (q : h' = h.sI 23 2 (h.I 23 2 + nI 1)) : CT h' len T (p + 1) ft := by
  obtain ⟨a1, a2, a3, a4, a5, a6, a7⟩ := hC
  rw [a4, nI_add] at q
  exact ⟨by rw [q]; exact a1, a2, fun i hi => by rw [q]; exact a3 i hi, by rw [q]; rfl, hp, by rw [q]; exact a6, a7⟩
theorem MT_step {h' : AH} (hC : MT h len T p ft) (hp : p < len) (q : h' = h.sI 53 20 (h.I 53 20 + nI 1)) : MT h' len T (p + 1) ft := by
  obtain ⟨a1, a2, a3, a4, a5, a6, a7⟩ := hC
  rw [a4, nI_add] at q
  exact ⟨by rw [q]; exact a1, a2, fun i hi => by rw [q]; exact a3 i hi, by rw [q]; rfl, hp, by rw [q]; exact a6, a7⟩
theorem c_takes {t : Nat} (ht : t ≤ 160) (hw : zWF h) (hC : CT h len T p ft) : zK (d + 2) m_X9_takes [.ref 23, .int (nI t)] h (kI (fun x h' => x = bI (tk len T p t) ∧ CT h' len T (if tk len T p t = true then p + 1 else p) ft ∧ frm [23] [] h h')) := by
  refine r_X9_takes_0 _ hw (use_pI (c_next hw hC) ⟨fun z => ⟨fun _ => ?_, fun y => absurd nI_0 y⟩, fun z => ⟨fun y => absurd y i1_ne0, fun _ h6 q6 => ?_⟩⟩)
  · have e : tk len T p t = false := decide_eq_false z
    rw [e]
    exact mk_kI hw ⟨rfl, hC, frm_rf⟩
  · have e : tk len T p t = true := decide_eq_true z
    rw [e]
    exact mk_kI (wf_I q6 hw) ⟨rfl, CT_step hC (tk_lt ht e) q6, frm_wI q6 (by decide)⟩
theorem c_need {t : Nat} (ht : t ≤ 160) (hw : zWF h) (hC : CT h len T p ft) : zK (d + 3) m_X9_need [.ref 23, .int (nI t)] h (kV (fun h' => CT h' len T (if tk len T p t = true then p + 1 else if ft.isSome = true then p else len) (if tk len T p t = true then ft else fl ft p) ∧ frm [23] [] h h')) := by
  have hp : p ≤ 160 := Nat.le_trans hC.2.2.2.2.1 hC.2.1
  refine r_X9_need_0 _ hw (use_kI (c_takes ht hw hC) (fun x h1 hw1 ⟨a1, a2, a3⟩ => ?_))
  subst a1
  cases e : tk len T p t with
  | true =>
    rw [e] at a2
    exact ⟨fun _ => mk_kV hw1 ⟨a2, a3⟩, fun z => absurd z bt0⟩
  | false =>
    rw [e] at a2
    refine ⟨fun z => absurd bf0 z, fun _ => ?_⟩
    rw [a2.2.2.2.1]
    exact use_kV (c_fail hp hw1 a2) (fun h4 hw4 ⟨b1, b2⟩ => mk_kV hw4 ⟨b1, frm_tr a3 b2⟩)
theorem m_isSign {t : Nat} (ht : t ≤ 160) (hw : zWF h) (hC : MT h len T p ft) : zK (d + 2) m_X11_isSign [.ref 53, .int (nI t)] h (kI (fun x h' => x = bI (tk len T p t) ∧ MT h' len T (if tk len T p t = true then p + 1 else p) (if tk len T p t = true then ft else fl ft p) ∧ frm [53] [] h h' ∧ ∀ j, j ≠ 20 → j ≠ 21 → h'.I 53 j = h.I 53 j)) := by
  have hp : p ≤ 160 := Nat.le_trans hC.2.2.2.2.1 hC.2.1
  refine r_X11_isSign_0 _ hw (use_pI (m_here hw hC) ⟨fun z h3 q3 => ?_, fun z => ?_⟩)
  · have e : tk len T p t = true := decide_eq_true z
    rw [e]
    exact mk_kI (wf_I q3 hw) ⟨rfl, MT_step hC (tk_lt ht e) q3, frm_wI q3 (by decide), fun j h20 _ => by rw [q3, AH.sI_I, va_up_ne _ _ h20]⟩
  · have e : tk len T p t = false := decide_eq_false z
    rw [e, hC.2.2.2.1]
    refine use_kI (m_fails hp hw hC) (fun x h4 hw4 ⟨a1, a2, a3, a4⟩ => ⟨Or.inl (a1.trans nI_0), mk_kI hw4 ⟨a1, a2, a3, fun j _ h21 => a4 j h21⟩⟩)
end READ2
