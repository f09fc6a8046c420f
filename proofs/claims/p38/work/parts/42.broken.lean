/-! BROKEN -/
def sup (g : Nat → Int64) (e : Nat) : Nat := pc (g (e / 40) &&& g (e % 40))
def mo (g : Nat → Int64) : Option Nat → Nat
  | none => 0
  | some b => sup g b
def oi : Option Nat → Int32
  | none => -1
  | some e => nI e
def ms (g : Nat → Int64) : Nat → Option Nat
  | 0 => none
  | e + 1 => if isE g e = true ∧ mo g (ms g e) < sup g e then some e else ms g e
theorem ms_s (g : Nat → Int64) (e : Nat) : ms g (e + 1) = if isE g e = true ∧ mo g (ms g e) < sup g e then some e else ms g e := rfl
theorem ms_some {g : Nat → Int64} : ∀ {n b}, ms g n = some b → b < n ∧ isE g b = true
  | 0, b, h => by cases h
  | n + 1, b, h => by
    rw [ms_s] at h
    by_cases z : isE g n = true ∧ mo g (ms g n) < sup g n
    · rw [if_pos z] at h
      cases h
      exact ⟨Nat.lt_succ_self _, z.1⟩
    · rw [if_neg z] at h
      have := ms_some h
      exact ⟨Nat.lt_succ_of_lt this.1, this.2⟩
theorem sup_le (g : Nat → Int64) (e : Nat) : sup g e ≤ 64 := pc_le _
theorem mo_le (g : Nat → Int64) (o : Option Nat) : mo g o ≤ 64 := by
  cases o with
  | none => exact Nat.zero_le _
  | some b => exact sup_le g b
def brkN : Nat → (Nat → Int64) → Nat → Nat → Nat × Nat
  | 0, _, c, f => (c, f)
  | n + 1, g, c, f => match ms g 1600 with
    | none => (c, f)
    | some e => brkN n (flip g (e / 40) (e % 40)) (c + 1) (if c = 0 then e else f)
def oc (c f : Nat) : Int32 := if c = 0 then -1 else nI f
section BROKEN
variable {d : Nat} {h : AH} {g : Nat → Int64}
theorem c_most (hw : zWF h) (hg : ∀ k, k < 40 → h.L 22 k = g k) : zK (d + 3) m_X1_mostSupported [.ref 21] h (pI h (fun x => x = oi (ms g 1600))) := by
  refine r_X1_mostSupported_0 hw ?_
  have A : ∀ u, u ≤ 40 → zQ none m_X1_mostSupported (d + 2 + 1) 6 [(0, .ref 21), (1, .int (oi (ms g (40 * u)))), (2, .int (nI (mo g (ms g (40 * u))))), (3, .int (nI u))] [] h (pI h (fun x => x = oi (ms g 1600))) := by
    refine nat_down ?_ (fun u hu ih => ?_)
    · exact r_X1_mostSupported_6 _ _ _ hw ⟨fun _ => mk_pI rfl, fun z => absurd e40 z⟩
    · refine r_X1_mostSupported_6 _ _ _ hw ⟨fun z => absurd z (n40 hu), fun _ => ?_⟩
      rw [nI_add]
      have skip : ∀ k, k ≤ u + 1 → ms g (40 * u + k) = ms g (40 * u) := by
        intro k
        induction k with
        | zero => intro _; rfl
        | succ k ih2 =>
          intro hk
          rw [← ih2 (by omega), ← Nat.add_assoc, ms_s, if_neg]
          unfold isE
          rw [decide_eq_false (show ¬ (40 * u + k) / 40 < (40 * u + k) % 40 by omega), Bool.false_and]
          exact fun q => absurd q.1 (by decide)
      have B : ∀ v, v ≤ 40 → u < v → zQ none m_X1_mostSupported (d + 2 + 1) 17 [(0, .ref 21), (1, .int (oi (ms g (40 * u + v)))), (2, .int (nI (mo g (ms g (40 * u + v))))), (3, .int (nI u)), (4, .int (nI v))] [] h (pI h (fun x => x = oi (ms g 1600))) := by
        refine nat_down ?_ (fun v hv ih2 => ?_)
        · intro _
          refine r_X1_mostSupported_17 _ _ _ _ hw ⟨fun _ => ?_, fun z => absurd e40 z⟩
          rw [nI_add]
          exact ih
        · intro huv
          have ih3 := ih2 (by omega)
          have hm := mo_le g (ms g (40 * u + v))
          have hs := sup_le g (40 * u + v)
          have es : sup g (40 * u + v) = pc (g u &&& g v) := by
            unfold sup
            rw [show (40 * u + v) / 40 = u by omega, show (40 * u + v) % 40 = v by omega]
          have ee : isE g (40 * u + v) = gb (g u) v := by
            unfold isE
            rw [show (40 * u + v) / 40 = u by omega, show (40 * u + v) % 40 = v by omega, decide_eq_true huv, Bool.true_and]
          refine r_X1_mostSupported_17 _ _ _ _ hw ⟨fun z => absurd z (n40 hv), fun _ => ⟨vi40 hu, ?_⟩⟩
          rw [cl40 hu, hg u hu, nI_add]
          rw [← Nat.add_assoc, ms_s, ee] at ih3
          refine use_pI (c_hasBit (by omega)) ⟨fun z => ?_, fun z => use_pI (c_shared (sh_22 hw) hu hv) ?_⟩
          · rw [if_neg (fun y => by rw [show gb (g u) v = false from bF z] at y; exact absurd y.1 (by decide))] at ih3
            exact ih3
          · have zt : gb (g u) v = true := bT z
            rw [hg u hu, hg v hv, ← es, nI_leE (by omega) (by omega)]
            refine ⟨fun y => ?_, fun y => use_pI (c_shared (sh_22 hw) hu hv) (use_pI (c_pairOf hu hv) ?_)⟩
            · rw [if_neg (fun w => by have := w.2; omega)] at ih3
              exact ih3
            · rw [if_pos ⟨zt, by omega⟩] at ih3
              rw [hg u hu, hg v hv, ← es, show pr u v = 40 * u + v by unfold pr; omega]
              exact ih3
      have := B (u + 1) (by omega) (by omega)
      rw [skip (u + 1) (Nat.le_refl _)] at this
      exact this
  exact A 0 (Nat.zero_le _)
theorem c_flip22 {u v : Nat} (hw : zWF h) (hg : ∀ k, k < 40 → h.L 22 k = g k) (hu : u < 40) (hv : v < 40) (huv : u ≠ v) : zK (d + 1) m_X1_flip [.ref 22, .int (nI u), .int (nI v)] h (kV (fun h' => (∀ k, k < 40 → h'.L 22 k = flip g u v k) ∧ frm [] [22] h h')) := by
  refine r_X1_flip_0 _ _ hw ⟨vi40 hu, vi40 hu, fun h3 q3 => ⟨vi40 hv, vi40 hv, fun h6 q6 => ?_⟩⟩
  rw [cl40 hu, hg u hu] at q3
  change h3 = h.sL 22 u (g u ^^^ one v) at q3
  have x3 : h3.L 22 = va_up (h.L 22) u (g u ^^^ one v) := by rw [q3, AH.sL_L]
  rw [cl40 hv, x3, va_up_ne _ _ (fun q => huv q.symm), hg v hv] at q6
  change h6 = h3.sL 22 v (g v ^^^ one u) at q6
  refine mk_kV (wf_L q6 (wf_L q3 hw)) ⟨fun k hk => ?_, frm_tr (frm_wL q3 (by decide)) (frm_wL q6 (by decide))⟩
  rw [q6, AH.sL_L, x3]
  unfold flip
  by_cases e : k = v
  · rw [e, va_up_self, va_up_self]
  · rw [va_up_ne _ _ e, va_up_ne _ _ e]
    by_cases e2 : k = u
    · rw [e2, va_up_self, va_up_self]
    · rw [va_up_ne _ _ e2, va_up_ne _ _ e2]; exact hg k hk
theorem isE_b {g : Nat → Int64} {e : Nat} (h : isE g e = true) : e / 40 < e % 40 ∧ gb (g (e / 40)) (e % 40) = true := by
  unfold isE at h
  rw [Bool.and_eq_true, decide_eq_true_iff] at h
  exact h
theorem ec_dec {n e : Nat} (hf : GF g) (he : isE g e = true) (he2 : e < 1600) (hn : fb_ct (isE g) 1600 ≤ n + 1) : fb_ct (isE (flip g (e / 40) (e % 40))) 1600 ≤ n := by
  obtain ⟨h1, h2⟩ := isE_b he
  have := ec_flip (f := g) hf.1 (u := e / 40) (v := e % 40) (by omega) (by omega) (by omega)
  rw [h2] at this
  simp at this
  omega
theorem c_breakLoop : ∀ n t, n + t = 780 → ∀ (h : AH) (g : Nat → Int64) (c f : Nat), zWF h → GF g → fb_ct (isE g) 1600 ≤ n → (∀ k, k < 40 → h.L 22 k = g k) → c ≤ t → h.I 21 1 = nI c → (c ≠ 0 → h.I 21 2 = nI f) → zQ none m_X1_breakAll (d + 4) 19 [(0, .ref 21), (2, .int (nI t))] [] h (kV (fun h' => h'.I 21 1 = nI (brkN n g c f).1 ∧ ((brkN n g c f).1 ≠ 0 → h'.I 21 2 = nI (brkN n g c f).2) ∧ (brkN n g c f).1 ≤ 780 ∧ frm [21] [22] h h')) := by
  intro n
  induction n with
  | zero =>
    intro t ht h g c f hw hf hec hg hct h1 h2
    rw [Nat.zero_add] at ht
    subst ht
    exact r_X1_breakAll_19 _ hw ⟨fun _ => mk_kV hw ⟨h1, h2, hct, frm_rf⟩, fun z => absurd ((nI_leE (by decide) (by decide)).mpr (Nat.le_refl _)) z⟩
  | succ n ih =>
    intro t ht h g c f hw hf hec hg hct h1 h2
    refine r_X1_breakAll_19 _ hw ⟨fun z => absurd ((nI_leE (by decide) (by omega)).mp z) (by omega), fun _ => use_pI (c_most hw hg) ?_⟩
    cases hm : ms g 1600 with
    | none =>
      have e : brkN (n + 1) g c f = (c, f) := by show (match ms g 1600 with | none => _ | some e => _) = _; rw [hm]
      rw [e]
      exact ⟨fun z => absurd z (by decide), fun _ => mk_kV hw ⟨h1, h2, by show c ≤ 780; omega, frm_rf⟩⟩
    | some b =>
      obtain ⟨hb, hE⟩ := ms_some hm
      obtain ⟨hlt, hgb⟩ := isE_b hE
      have e : brkN (n + 1) g c f = brkN n (flip g (b / 40) (b % 40)) (c + 1) (if c = 0 then b else f) := by show (match ms g 1600 with | none => _ | some e => _) = _; rw [hm]
      rw [e]
      rw [show oi (some b) = nI b from rfl, nI_remE (by omega) (by decide) (by decide), nI_divE (by omega) (by decide) (by decide), h1, nI_add, nI_add]
      have hf' := GF_flip hf (u := b / 40) (v := b % 40) (by omega) (by omega) (by omega)
      have hec' := ec_dec hf hE hb hec
      refine ⟨fun _ => ⟨fun z h5 q5 => ?_, fun z h7 q7 h8 q8 => ?_⟩, fun z => absurd (nI_0le (by omega)) z⟩
      · have hc : c ≠ 0 := fun y => z (by rw [y]; exact nI_0)
        have x22 : ∀ k, k < 40 → h5.L 22 k = g k := fun k hk => by rw [q5]; exact hg k hk
        refine use_kV (c_flip22 (wf_I q5 hw) x22 (by omega) (by omega) (by omega)) (fun h6 hw6 ⟨a1, a2⟩ => ?_)
        refine zq_mono (ih (t + 1) (by omega) h6 _ (c + 1) (if c = 0 then b else f) hw6 hf' hec' a1 (by omega) (by rw [frm_I a2 (by decide), q5]; rfl) (fun _ => ?_)) (fun r h' ⟨r1, r2, r3, r4, r5, r6⟩ => ⟨r1, r2, r3, r4, r5, frm_tr (frm_wI q5 (by decide)) (frm_tr (frm_up a2 (by decide) (by decide)) r6)⟩)
        rw [frm_I a2 (by decide), q5, if_neg hc]
        exact h2 hc
      · have hc : c = 0 := (nI_eq0 (by omega)).mp z
        have w : h7.I 21 1 = nI c := by rw [q7]; exact h1
        rw [w, nI_add] at q8
        have x22 : ∀ k, k < 40 → h8.L 22 k = g k := fun k hk => by rw [q8, q7]; exact hg k hk
        refine use_kV (c_flip22 (wf_I q8 (wf_I q7 hw)) x22 (by omega) (by omega) (by omega)) (fun h6 hw6 ⟨a1, a2⟩ => ?_)
        refine zq_mono (ih (t + 1) (by omega) h6 _ (c + 1) (if c = 0 then b else f) hw6 hf' hec' a1 (by omega) (by rw [frm_I a2 (by decide), q8]; rfl) (fun _ => ?_)) (fun r h' ⟨r1, r2, r3, r4, r5, r6⟩ => ⟨r1, r2, r3, r4, r5, frm_tr (frm_wI q7 (by decide)) (frm_tr (frm_wI q8 (by decide)) (frm_tr (frm_up a2 (by decide) (by decide)) r6))⟩)
        rw [frm_I a2 (by decide), q8, q7, if_pos hc]
        rfl
def bans (c f : Nat) (w : Int32) : Int32 := if w = 0 then nI c else if c = 0 then -5 else if w = nI 1 then nI (f / 40) else nI (f % 40)
theorem c_breakAll (hw : zWF h) (hf : GF (h.L 3)) : zK (d + 5) m_X1_breakAll [.ref 21, .ref 3] h (kV (fun h' => h'.I 21 1 = nI (brkN 780 (h.L 3) 0 0).1 ∧ ((brkN 780 (h.L 3) 0 0).1 ≠ 0 → h'.I 21 2 = nI (brkN 780 (h.L 3) 0 0).2) ∧ (brkN 780 (h.L 3) 0 0).1 ≤ 780 ∧ frm [21] [22] h h')) := by
  refine r_X1_breakAll_0 hw ⟨⟨by decide, by decide, by decide, by decide, by decide⟩, fun h2 q2 h3 q3 => ?_⟩
  rw [k0, cl_40] at q2
  refine zq_mono (c_breakLoop (d := d + 1) 780 0 rfl h3 (h.L 3) 0 0 (wf_I q3 (wf_L q2 hw)) hf (ec_le _) (fun k hk => ?_) (Nat.le_refl _) (by rw [q3]; rfl) (fun z => absurd rfl z)) (fun r h' ⟨r1, r2, r3, r4, r5, r6⟩ => ⟨r1, r2, r3, r4, r5, frm_tr (frm_wL q2 (by decide)) (frm_tr (frm_wI q3 (by decide)) r6)⟩)
  have e : h3.L 22 = va_cpy (h.L 3) (h.L 22) 0 0 40 := by
    rw [q3, q2]
    show va_up h.L 22 _ 22 = _
    exact va_up_self _ _ _
  rw [e, cpy0 hk]
theorem br_lt : ∀ n (g : Nat → Int64) c f, f < 1600 → (brkN n g c f).2 < 1600
  | 0, _, _, _, h => h
  | n + 1, g, c, f, h => by
    show (match ms g 1600 with | none => (c, f) | some e => brkN n (flip g (e / 40) (e % 40)) (c + 1) (if c = 0 then e else f)).2 < 1600
    cases hm : ms g 1600 with
    | none => exact h
    | some e => exact br_lt n _ _ _ (by split; exact (ms_some hm).1; exact h)
end BROKEN
