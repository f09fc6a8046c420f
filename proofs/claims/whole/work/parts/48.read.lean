/-! reading THE TAPE: len letters T, a place p, the first fault -/
def nx (len : Nat) (T : Nat → Nat) (p : Nat) : Int32 := if p < len then nI (T p) else -1
def fi : Option Nat → Int32
  | none => -1
  | some f => nI f
def CT (h : AH) (len : Nat) (T : Nat → Nat) (p : Nat) (ft : Option Nat) : Prop := h.I 23 1 = nI len ∧ len ≤ 160 ∧ (∀ i, i < len → h.I 24 i = nI (T i)) ∧ h.I 23 2 = nI p ∧ p ≤ len ∧ h.I 23 3 = fi ft ∧ ∀ f, ft = some f → f ≤ 160
def MT (h : AH) (len : Nat) (T : Nat → Nat) (p : Nat) (ft : Option Nat) : Prop := h.I 53 19 = nI len ∧ len ≤ 160 ∧ (∀ i, i < len → h.I 66 i = nI (T i)) ∧ h.I 53 20 = nI p ∧ p ≤ len ∧ h.I 53 21 = fi ft ∧ ∀ f, ft = some f → f ≤ 160
theorem fi_n {f : Nat} (h : f ≤ 160) : ¬ nI f = -1 ∧ 0 ≤ nI f := by
  refine ⟨fun q => ?_, nI_0le (by omega)⟩
  have h0 := nI_0le (a := f) (by omega)
  rw [q] at h0
  exact absurd h0 (by decide)
section READ
variable {d : Nat} {h : AH} {len p : Nat} {T : Nat → Nat} {ft : Option Nat}
theorem c_next (hw : zWF h) (hC : CT h len T p ft) : zK (d + 1) m_X9_next [.ref 23] h (pI h (fun x => x = nx len T p)) := by
  obtain ⟨a1, a2, a3, a4, a5, a6, a7⟩ := hC
  refine r_X9_next_0 hw ?_
  rw [a1, a4, nI_leE (by omega) (by omega), nI_leE (by decide) (by omega)]
  refine ⟨fun z => mk_pI ?_, fun z => ⟨fun y => absurd y (by omega), fun _ => ⟨vp_in_nI (by omega) (by decide), mk_pI ?_⟩⟩⟩
  · unfold nx; rw [if_neg (by omega)]
  · unfold nx; rw [if_pos (by omega), cl_n (show p < 160 by omega) (by decide)]; exact a3 p (by omega)
theorem m_here (hw : zWF h) (hC : MT h len T p ft) : zK (d + 1) m_X11_here [.ref 53] h (pI h (fun x => x = nx len T p)) := by
  obtain ⟨a1, a2, a3, a4, a5, a6, a7⟩ := hC
  refine r_X11_here_0 hw ?_
  rw [a1, a4, nI_leE (by omega) (by omega)]
  refine ⟨fun z => mk_pI ?_, fun z => ⟨vp_in_nI (by omega) (by decide), mk_pI ?_⟩⟩
  · unfold nx; rw [if_neg (by omega)]
  · unfold nx; rw [if_pos (by omega), cl_n (show p < 160 by omega) (by decide)]; exact a3 p (by omega)
def fl (ft : Option Nat) (a : Nat) : Option Nat := match ft with
  | none => some a
  | some f => some f
theorem c_fail {a : Nat} (ha : a ≤ 160) (hw : zWF h) (hC : CT h len T p ft) : zK (d + 1) m_X9_fail [.ref 23, .int (nI a)] h (kV (fun h' => CT h' len T (if ft.isSome = true then p else len) (fl ft a) ∧ frm [23] [] h h')) := by
  have hC1 := hC
  obtain ⟨a1, a2, a3, a4, a5, a6, a7⟩ := hC
  refine r_X9_fail_0 _ hw ?_
  cases ft with
  | some f =>
    have := fi_n (a7 f rfl)
    rw [a6]
    exact ⟨fun _ => mk_kV hw ⟨hC1, frm_rf⟩, fun z => absurd z this.1⟩
  | none =>
    rw [a6]
    refine ⟨fun z => absurd rfl z, fun _ h2 q2 h3 q3 => mk_kV (wf_I q3 (wf_I q2 hw)) ⟨⟨?_, a2, ?_, ?_, Nat.le_refl _, ?_, fun f hf => ?_⟩, frm_tr (frm_wI q2 (by decide)) (frm_wI q3 (by decide))⟩⟩
    · rw [q3, q2]; exact a1
    · intro i hi; rw [q3, q2]; exact a3 i hi
    · have w : h2.I 23 1 = nI len := by rw [q2]; exact a1
      rw [w] at q3
      rw [q3]; rfl
    · rw [q3, q2]; rfl
    · cases hf; exact ha
theorem m_fails {a : Nat} (ha : a ≤ 160) (hw : zWF h) (hC : MT h len T p ft) : zK (d + 1) m_X11_fails [.ref 53, .int (nI a)] h (kI (fun x h' => x = nI 0 ∧ MT h' len T p (fl ft a) ∧ frm [53] [] h h' ∧ ∀ j, j ≠ 21 → h'.I 53 j = h.I 53 j)) := by
  have hC1 := hC
  obtain ⟨a1, a2, a3, a4, a5, a6, a7⟩ := hC
  refine r_X11_fails_0 _ hw ?_
  cases ft with
  | some f =>
    have := fi_n (a7 f rfl)
    rw [a6]
    exact ⟨fun _ => mk_kI hw ⟨rfl, hC1, frm_rf, fun _ _ => rfl⟩, fun z => absurd this.2 z⟩
  | none =>
    rw [a6]
    refine ⟨fun z => absurd z (by decide), fun _ h2 q2 => mk_kI (wf_I q2 hw) ⟨rfl, ⟨?_, a2, ?_, ?_, a5, ?_, fun f hf => ?_⟩, frm_wI q2 (by decide), fun j hj => ?_⟩⟩
    · rw [q2]; exact a1
    · intro i hi; rw [q2]; exact a3 i hi
    · rw [q2]; exact a4
    · rw [q2]; rfl
    · cases hf; exact ha
    · rw [q2, AH.sI_I, va_up_ne _ _ hj]
end READ
