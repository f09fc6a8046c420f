/-! BROKEN -/
def sup (g : Nat → Int64) (e : Nat) : Nat := pc (g (e / 40) &&& g (e % 40))
def mo (g : Nat → Int64) : Option Nat → Nat
  | none => 0
  | some b => sup g b
def oi : Option Nat → Int32
  | none => -1
  | some e => nI e
def ms (g : Nat → Int64) : Nat → Option Nat
  | 0 => none
  | e + 1 => if isE g e = true ∧ mo g (ms g e) < sup g e then some e else ms g e
theorem ms_s (g : Nat → Int64) (e : Nat) : ms g (e + 1) = if isE g e = true ∧ mo g (ms g e) < sup g e then some e else ms g e := rfl
theorem ms_some {g : Nat → Int64} : ∀ {n b}, ms g n = some b → b < n ∧ isE g b = true
  | 0, b, h => by cases h
  | n + 1, b, h => by
    rw [ms_s] at h
    by_cases z : isE g n = true ∧ mo g (ms g n) < sup g n
    · rw [if_pos z] at h
      cases h
      exact ⟨Nat.lt_succ_self _, z.1⟩
    · rw [if_neg z] at h
      have := ms_some h
      exact ⟨Nat.lt_succ_of_lt this.1, this.2⟩
theorem sup_le (g : Nat → Int64) (e : Nat) : sup g e ≤ 64 := pc_le _
theorem mo_le (g : Nat → Int64) (o : Option Nat) : mo g o ≤ 64 := by
  cases o with
  | none => exact Nat.zero_le _
  | some b => exact sup_le g b
def brkN : Nat → (Nat → Int64) → Nat → Nat → Nat × Nat
  | 0, _, c, f => (c, f)
  | n + 1, g, c, f => match ms g 1600 with
    | none => (c, f)
    | some e => brkN n (flip g (e / 40) (e % 40)) (c + 1) (if c = 0 then e else f)
def oc (c f : Nat) : Int32 := if c = 0 then -1 else nI f
section BROKEN
variable {d : Nat} {h : AH} {g : Nat → Int64}
theorem c_most (hw : zWF h) (hg : ∀ k, k < 40 → h.L 22 k = g k) : zK (d + 3) m_X1_mostSupported [.ref 21] h (pI h (fun x => x = oi (ms g 1600))) := by
  refine r_X1_mostSupported_0 hw ?_
  have A : ∀ u, u ≤ 40 → zQ none m_X1_mostSupported (d + 2 + 1) 6 [(0, .ref 21), (1, .int (oi (ms g (40 * u)))), (2, .int (nI (mo g (ms g (40 * u))))), (3, .int (nI u))] [] h (pI h (fun x => x = oi (ms g 1600))) := by
    refine nat_down ?_ (fun u hu ih => ?_)
    · exact r_X1_mostSupported_6 _ _ _ hw ⟨fun _ => mk_pI rfl, fun z => absurd e40 z⟩
    · refine r_X1_mostSupported_6 _ _ _ hw ⟨fun z => absurd z (n40 hu), fun _ => ?_⟩
      rw [nI_add]
      have skip : ∀ k, k ≤ u + 1 → ms g (40 * u + k) = ms g (40 * u) := by
        intro k
        induction k with
        | zero => intro _; rfl
        | succ k ih2 =>
          intro hk
          rw [← ih2 (by omega), ← Nat.add_assoc, ms_s, if_neg]
          unfold isE
          rw [decide_eq_false (show ¬ (40 * u + k) / 40 < (40 * u + k) % 40 by omega), Bool.false_and]
          exact fun q => absurd q.1 (by decide)
      have B : ∀ v, v ≤ 40 → u < v → zQ none m_X1_mostSupported (d + 2 + 1) 17 [(0, .ref 21), (1, .int (oi (ms g (40 * u + v)))), (2, .int (nI (mo g (ms g (40 * u + v))))), (3, .int (nI u)), (4, .int (nI v))] [] h (pI h (fun x => x = oi (ms g 1600))) := by
        refine nat_down ?_ (fun v hv ih2 => ?_)
        · intro _
          refine r_X1_mostSupported_17 _ _ _ _ hw ⟨fun _ => ?_, fun z => absurd e40 z⟩
          rw [nI_add]
          exact ih
        · intro huv
          have ih3 := ih2 (by omega)
          have hm := mo_le g (ms g (40 * u + v))
          have hs := sup_le g (40 * u + v)
          have es : sup g (40 * u + v) = pc (g u &&& g v) := by
            unfold sup
            rw [show (40 * u + v) / 40 = u by omega, show (40 * u + v) % 40 = v by omega]
          have ee : isE g (40 * u + v) = gb (g u) v := by
            unfold isE
            rw [show (40 * u + v) / 40 = u by omega, show (40 * u + v) % 40 = v by omega, decide_eq_true huv, Bool.true_and]
          refine r_X1_mostSupported_17 _ _ _ _ hw ⟨fun z => absurd z (n40 hv), fun _ => ⟨vi40 hu, ?_⟩⟩
          rw [cl40 hu, hg u hu, nI_add]
          rw [← Nat.add_assoc, ms_s, ee] at ih3
          refine use_pI (c_hasBit (by omega)) ⟨fun z => ?_, fun z => use_pI (c_shared (sh_22 hw) hu hv) ?_⟩
          · rw [if_neg (fun y => by rw [show gb (g u) v = false from bF z] at y; exact absurd y.1 (by decide))] at ih3
            exact ih3
          · have zt : gb (g u) v = true := bT z
            rw [hg u hu, hg v hv, ← es, nI_leE (by omega) (by omega)]
            refine ⟨fun y => ?_, fun y => use_pI (c_shared (sh_22 hw) hu hv) (use_pI (c_pairOf hu hv) ?_)⟩
            · rw [if_neg (fun w => by have := w.2; omega)] at ih3
              exact ih3
            · rw [if_pos ⟨zt, by omega⟩] at ih3
              rw [hg u hu, hg v hv, ← es, show pr u v = 40 * u + v by unfold pr; omega]
              exact ih3
      have := B (u + 1) (by omega) (by omega)
      rw [skip (u + 1) (Nat.le_refl _)] at this
      exact this
  exact A 0 (Nat.zero_le _)
theorem c_flip22 {u v : Nat} (hw : zWF h) (hg : ∀ k, k < 40 → h.L 22 k = g k) (hu : u < 40) (hv : v < 40) (huv : u ≠ v) : zK (d + 1) m_X1_flip [.ref 22, .int (nI u), .int (nI v)] h (kV (fun h' => (∀ k, k < 40 → h'.L 22 k = flip g u v k) ∧ frm [] [22] h h')) := by
  refine r_X1_flip_0 _ _ hw ⟨vi40 hu, vi40 hu, fun h3 q3 => ⟨vi40 hv, vi40 hv, fun h6 q6 => ?_⟩⟩
  rw [cl40 hu, hg u hu] at q3
  change h3 = h.sL 22 u (g u ^^^ one v) at q3
  have x3 : h3.L 22 = va_up (h.L 22) u (g u ^^^ one v) := by rw [q3, AH.sL_L]
  rw [cl40 hv, x3, va_up_ne _ _ (fun q => huv q.symm), hg v hv] at q6
  change h6 = h3.sL 22 v (g v ^^^ one u) at q6
  refine mk_kV (wf_L q6 (wf_L q3 hw)) ⟨fun k hk => ?_, frm_tr (frm_wL q3 (by decide)) (frm_wL q6 (by decide))⟩
  rw [q6, AH.sL_L, x3]
  unfold flip
  by_cases e : k = v
  · rw [e, va_up_self, va_up_self]
  · rw [va_up_ne _ _ e, va_up_ne _ _ e]
    by_cases e2 : k = u
    · rw [e2, va_up_self, va_up_self]
    · rw [va_up_ne _ _ e2, va_up_ne _ _ e2]; exact hg k hk
theorem m_leaves_ {u v : Nat} (hw : zWF h) (hg : ∀ k, k < 40 → h.L 61 k = g k) (hf : GF g) (hu : u < 40) (hv : v < 40) (huv : u ≠ v) (hz : gb (g u) v = true) : zK (d + 1) m_X11_leaves_ [.ref 53, .int (nI u), .int (nI v)] h (kV (fun h' => (∀ k, k < 40 → h'.L 61 k = flip g u v k) ∧ frm [] [61] h h')) := by
  refine r_X11_leaves__0 _ _ hw ⟨vi40 hu, vi40 hu, fun h3 q3 => ⟨vi40 hv, vi40 hv, fun h6 q6 => ?_⟩⟩
  rw [cl40 hu, hg u hu] at q3
  change h3 = h.sL 61 u (g u &&& (one v ^^^ (-1))) at q3
  rw [andn_xor (by omega) hz] at q3
  have x3 : h3.L 61 = va_up (h.L 61) u (g u ^^^ one v) := by rw [q3, AH.sL_L]
  rw [cl40 hv, x3, va_up_ne _ _ (fun q => huv q.symm), hg v hv] at q6
  change h6 = h3.sL 61 v (g v &&& (one u ^^^ (-1))) at q6
  rw [andn_xor (by omega) (by rw [hf.1]; exact hz)] at q6
  refine mk_kV (wf_L q6 (wf_L q3 hw)) ⟨fun k hk => ?_, frm_tr (frm_wL q3 (by decide)) (frm_wL q6 (by decide))⟩
  rw [q6, AH.sL_L, x3]
  unfold flip
  by_cases e : k = v
  · rw [e, va_up_self, va_up_self]
  · rw [va_up_ne _ _ e, va_up_ne _ _ e]
    by_cases e2 : k = u
    · rw [e2, va_up_self, va_up_self]
    · rw [va_up_ne _ _ e2, va_up_ne _ _ e2]; exact hg k hk
theorem m_leaves (hw : zWF h) : zK (d + 1) m_X11_leaves [.ref 53] h (kV (fun h' => (∀ k, k < 40 → h'.L 61 k = h.L 58 k) ∧ frm [] [61] h h')) := by
  refine r_X11_leaves_0 hw ?_
  refine cpyL (h := h) (a := 61) (b := 58) (N := 40) (P := fun i g => zQ none m_X11_leaves (d + 1) 2 [(0, .ref 53), (1, .int (nI i))] [] g _) (by decide) (by decide) ?_ ?_ hw
  · intro g hg f1 c1 _
    exact r_X11_leaves_2 _ hg ⟨fun _ => mk_kV hg ⟨c1, f1⟩, fun z => absurd e40 z⟩
  · intro i g hi hg ih
    refine r_X11_leaves_2 _ hg ⟨fun z => absurd z (n40 hi), fun _ => ⟨vi40 hi, vi40 hi, fun g' z => ?_⟩⟩
    rw [cl40 hi] at z
    rw [nI_add]
    exact ih g' (wf_L z hg) z
theorem m_supportLeft {e : Nat} (hw : zWF h) (hg : ∀ k, k < 40 → h.L 61 k = g k) (he : e < 1600) : zK (d + 2) m_X11_supportLeft [.ref 53, .int (nI e)] h (pI h (fun x => x = nI (sup g e))) := by
  refine r_X11_supportLeft_0 _ hw ?_
  rw [nI_remE (by omega) (by decide) (by decide), nI_divE (by omega) (by decide) (by decide), cl40 (show e / 40 < 40 by omega), cl40 (show e % 40 < 40 by omega), hg _ (by omega), hg _ (by omega)]
  exact ⟨vi40 (by omega), vi40 (by omega), use_pI (c_bits _) (mk_pI rfl)⟩
theorem m_isLeft {e : Nat} (hw : zWF h) (hg : ∀ k, k < 40 → h.L 61 k = g k) (he : e < 1600) : zK (d + 2) m_X11_isLeft [.ref 53, .int (nI e)] h (pI h (fun x => x = bI (isE g e))) := by
  refine r_X11_isLeft_0 _ hw ?_
  rw [nI_remE (by omega) (by decide) (by decide), nI_divE (by omega) (by decide) (by decide), nI_leE (by omega) (by omega), cl40 (show e / 40 < 40 by omega), hg _ (by omega)]
  refine ⟨fun z => mk_pI (bI_f ?_), fun z => ⟨vi40 (by omega), use_pI (c_has (by omega)) ⟨fun y => mk_pI (bI_f ?_), fun y => mk_pI (bI_t ?_)⟩⟩⟩
  · unfold isE; rw [decide_eq_false (by omega)]; rfl
  · unfold isE; rw [show gb (g (e / 40)) (e % 40) = false from bF y, Bool.and_false]
  · unfold isE; rw [decide_eq_true (by omega), show gb (g (e / 40)) (e % 40) = true from bT y]; rfl
theorem isE_b {g : Nat → Int64} {e : Nat} (h : isE g e = true) : e / 40 < e % 40 ∧ gb (g (e / 40)) (e % 40) = true := by
  unfold isE at h
  rw [Bool.and_eq_true, decide_eq_true_iff] at h
  exact h
theorem ec_dec {n e : Nat} (hf : GF g) (he : isE g e = true) (he2 : e < 1600) (hn : fb_ct (isE g) 1600 ≤ n + 1) : fb_ct (isE (flip g (e / 40) (e % 40))) 1600 ≤ n := by
  obtain ⟨h1, h2⟩ := isE_b he
  have := ec_flip (f := g) hf.1 (u := e / 40) (v := e % 40) (by omega) (by omega) (by omega)
  rw [h2] at this
  simp at this
  omega
theorem c_breakLoop : ∀ n t, n + t = 780 → ∀ (h : AH) (g : Nat → Int64) (c f : Nat), zWF h → GF g → fb_ct (isE g) 1600 ≤ n → (∀ k, k < 40 → h.L 22 k = g k) → c ≤ t → h.I 21 1 = nI c → (c ≠ 0 → h.I 21 2 = nI f) → zQ none m_X1_breakAll (d + 4) 19 [(0, .ref 21), (2, .int (nI t))] [] h (kV (fun h' => h'.I 21 1 = nI (brkN n g c f).1 ∧ ((brkN n g c f).1 ≠ 0 → h'.I 21 2 = nI (brkN n g c f).2) ∧ (brkN n g c f).1 ≤ 780 ∧ frm [21] [22] h h')) := by
  intro n
  induction n with
  | zero =>
    intro t ht h g c f hw hf hec hg hct h1 h2
    rw [Nat.zero_add] at ht
    subst ht
    exact r_X1_breakAll_19 _ hw ⟨fun _ => mk_kV hw ⟨h1, h2, hct, frm_rf⟩, fun z => absurd ((nI_leE (by decide) (by decide)).mpr (Nat.le_refl _)) z⟩
  | succ n ih =>
    intro t ht h g c f hw hf hec hg hct h1 h2
    refine r_X1_breakAll_19 _ hw ⟨fun z => absurd ((nI_leE (by decide) (by omega)).mp z) (by omega), fun _ => use_pI (c_most hw hg) ?_⟩
    cases hm : ms g 1600 with
    | none =>
      have e : brkN (n + 1) g c f = (c, f) := by show (match ms g 1600 with | none => _ | some e => _) = _; rw [hm]
      rw [e]
      exact ⟨fun z => absurd z (by decide), fun _ => mk_kV hw ⟨h1, h2, by show c ≤ 780; omega, frm_rf⟩⟩
    | some b =>
      obtain ⟨hb, hE⟩ := ms_some hm
      obtain ⟨hlt, hgb⟩ := isE_b hE
      have e : brkN (n + 1) g c f = brkN n (flip g (b / 40) (b % 40)) (c + 1) (if c = 0 then b else f) := by show (match ms g 1600 with | none => _ | some e => _) = _; rw [hm]
      rw [e]
      rw [show oi (some b) = nI b from rfl, nI_remE (by omega) (by decide) (by decide), nI_divE (by omega) (by decide) (by decide), h1, nI_add, nI_add]
      have hf' := GF_flip hf (u := b / 40) (v := b % 40) (by omega) (by omega) (by omega)
      have hec' := ec_dec hf hE hb hec
      refine ⟨fun _ => ⟨fun z h5 q5 => ?_, fun z h7 q7 h8 q8 => ?_⟩, fun z => absurd (nI_0le (by omega)) z⟩
      · have hc : c ≠ 0 := fun y => z (by rw [y]; exact nI_0)
        have x22 : ∀ k, k < 40 → h5.L 22 k = g k := fun k hk => by rw [q5]; exact hg k hk
        refine use_kV (c_flip22 (wf_I q5 hw) x22 (by omega) (by omega) (by omega)) (fun h6 hw6 ⟨a1, a2⟩ => ?_)
        refine zq_mono (ih (t + 1) (by omega) h6 _ (c + 1) (if c = 0 then b else f) hw6 hf' hec' a1 (by omega) (by rw [frm_I a2 (by decide), q5]; rfl) (fun _ => ?_)) (fun r h' ⟨r1, r2, r3, r4, r5, r6⟩ => ⟨r1, r2, r3, r4, r5, frm_tr (frm_wI q5 (by decide)) (frm_tr (frm_up a2 (by decide) (by decide)) r6)⟩)
        rw [frm_I a2 (by decide), q5, if_neg hc]
        exact h2 hc
      · have hc : c = 0 := (nI_eq0 (by omega)).mp z
        have w : h7.I 21 1 = nI c := by rw [q7]; exact h1
        rw [w, nI_add] at q8
        have x22 : ∀ k, k < 40 → h8.L 22 k = g k := fun k hk => by rw [q8, q7]; exact hg k hk
        refine use_kV (c_flip22 (wf_I q8 (wf_I q7 hw)) x22 (by omega) (by omega) (by omega)) (fun h6 hw6 ⟨a1, a2⟩ => ?_)
        refine zq_mono (ih (t + 1) (by omega) h6 _ (c + 1) (if c = 0 then b else f) hw6 hf' hec' a1 (by omega) (by rw [frm_I a2 (by decide), q8]; rfl) (fun _ => ?_)) (fun r h' ⟨r1, r2, r3, r4, r5, r6⟩ => ⟨r1, r2, r3, r4, r5, frm_tr (frm_wI q7 (by decide)) (frm_tr (frm_wI q8 (by decide)) (frm_tr (frm_up a2 (by decide) (by decide)) r6))⟩)
        rw [frm_I a2 (by decide), q8, q7, if_pos hc]
        rfl
def bans (c f : Nat) (w : Int32) : Int32 := if w = 0 then nI c else if c = 0 then -5 else if w = nI 1 then nI (f / 40) else nI (f % 40)
theorem c_breakAll (hw : zWF h) (hf : GF (h.L 3)) : zK (d + 5) m_X1_breakAll [.ref 21, .ref 3] h (kV (fun h' => h'.I 21 1 = nI (brkN 780 (h.L 3) 0 0).1 ∧ ((brkN 780 (h.L 3) 0 0).1 ≠ 0 → h'.I 21 2 = nI (brkN 780 (h.L 3) 0 0).2) ∧ (brkN 780 (h.L 3) 0 0).1 ≤ 780 ∧ frm [21] [22] h h')) := by
  refine r_X1_breakAll_0 hw ⟨⟨by decide, by decide, by decide, by decide, by decide⟩, fun h2 q2 h3 q3 => ?_⟩
  rw [k0, cl_40] at q2
  refine zq_mono (c_breakLoop (d := d + 1) 780 0 rfl h3 (h.L 3) 0 0 (wf_I q3 (wf_L q2 hw)) hf (ec_le _) (fun k hk => ?_) (Nat.le_refl _) (by rw [q3]; rfl) (fun z => absurd rfl z)) (fun r h' ⟨r1, r2, r3, r4, r5, r6⟩ => ⟨r1, r2, r3, r4, r5, frm_tr (frm_wL q2 (by decide)) (frm_tr (frm_wI q3 (by decide)) r6)⟩)
  have e : h3.L 22 = va_cpy (h.L 3) (h.L 22) 0 0 40 := by
    rw [q3, q2]
    show va_up h.L 22 _ 22 = _
    exact va_up_self _ _ _
  rw [e, cpy0 hk]
theorem br_lt : ∀ n (g : Nat → Int64) c f, f < 1600 → (brkN n g c f).2 < 1600
  | 0, _, _, _, h => h
  | n + 1, g, c, f, h => by
    show (match ms g 1600 with | none => (c, f) | some e => brkN n (flip g (e / 40) (e % 40)) (c + 1) (if c = 0 then e else f)).2 < 1600
    cases hm : ms g 1600 with
    | none => exact h
    | some e => exact br_lt n _ _ _ (by split; exact (ms_some hm).1; exact h)
theorem m_breakLoop {w : Int32} : ∀ n, n ≤ 780 → ∀ (h : AH) (g : Nat → Int64) (c f : Nat), zWF h → GF g → fb_ct (isE g) 1600 ≤ n → (∀ k, k < 40 → h.L 61 k = g k) → f < 1600 → c + n ≤ 780 → zQ none m_X11_broken (d + 4) 19 [(0, .ref 53), (1, .int w), (2, .int (oc c f)), (3, .int (nI c))] [] h (kI (fun x h' => x = bans (brkN n g c f).1 (brkN n g c f).2 w ∧ frm [] [61] h h')) := by
  intro n
  induction n with
  | zero =>
    intro _ h g c f hw hf hec hg hf1 hcn
    have noE : ∀ e, e < 1600 → isE g e = false := fun e he => by
      cases hz : isE g e with
      | false => rfl
      | true =>
        have h1 : fb_ct (isE g) (e + 1) ≤ fb_ct (isE g) 1600 := fb_ct_mono _ (by omega)
        rw [fb_ct_succ, if_pos hz] at h1
        omega
    have key : ∀ e, e ≤ 1600 → zQ none m_X11_broken (d + 3 + 1) 25 [(0, .ref 53), (1, .int w), (2, .int (oc c f)), (3, .int (nI c)), (4, .int (-1)), (5, .int (nI e))] [] h (kI (fun x h' => x = bans c f w ∧ frm [] [61] h h')) := by
      refine nat_down ?_ (fun e he ih => ?_)
      · refine r_X11_broken_25 _ _ _ _ _ hw ⟨fun _ => ⟨fun z => absurd z (by decide), fun _ => ⟨fun z => ?_, fun z => mk_kI hw ⟨(if_pos z).symm, frm_rf⟩⟩⟩, fun z => absurd ((nI_leE (by decide) (by decide)).mpr (Nat.le_refl _)) z⟩
        unfold oc bans
        rw [if_neg z]
        by_cases hc : c = 0
        · rw [if_pos hc, if_pos hc]
          exact ⟨fun y => absurd y (by decide), fun _ => mk_kI hw ⟨rfl, frm_rf⟩⟩
        · rw [if_neg hc, if_neg hc, nI_remE (by omega) (by decide) (by decide), nI_divE (by omega) (by decide) (by decide)]
          exact ⟨fun _ => ⟨fun y => mk_kI hw ⟨(if_neg y).symm, frm_rf⟩, fun y => mk_kI hw ⟨(if_pos y).symm, frm_rf⟩⟩, fun y => absurd (nI_0le (by omega)) y⟩
      · refine r_X11_broken_25 _ _ _ _ _ hw ⟨fun z => absurd ((nI_leE (by decide) (by omega)).mp z) (by omega), fun _ => use_pI (m_isLeft hw hg he) ?_⟩
        rw [noE e he, nI_add]
        exact ⟨fun _ => ih, fun z => absurd bf0 z⟩
    exact r_X11_broken_19 _ _ _ hw (key 0 (Nat.zero_le _))
  | succ n ihn =>
    intro hn h g c f hw hf hec hg hf1 hcn
    refine r_X11_broken_19 _ _ _ hw ?_
    have key : ∀ e, e ≤ 1600 → zQ none m_X11_broken (d + 3 + 1) 25 [(0, .ref 53), (1, .int w), (2, .int (oc c f)), (3, .int (nI c)), (4, .int (oi (ms g e))), (5, .int (nI e))] [] h (kI (fun x h' => x = bans (brkN (n + 1) g c f).1 (brkN (n + 1) g c f).2 w ∧ frm [] [61] h h')) := by
      refine nat_down ?_ (fun e he ih => ?_)
      · refine r_X11_broken_25 _ _ _ _ _ hw ⟨fun _ => ?_, fun z => absurd ((nI_leE (by decide) (by decide)).mpr (Nat.le_refl _)) z⟩
        cases hm : ms g 1600 with
        | none =>
          have e1 : brkN (n + 1) g c f = (c, f) := by show (match ms g 1600 with | none => _ | some e => _) = _; rw [hm]
          rw [e1]
          refine ⟨fun z => absurd z (by decide), fun _ => ⟨fun z => ?_, fun z => mk_kI hw ⟨(if_pos z).symm, frm_rf⟩⟩⟩
          unfold oc bans
          rw [if_neg z]
          by_cases hc : c = 0
          · rw [if_pos hc, if_pos hc]
            exact ⟨fun y => absurd y (by decide), fun _ => mk_kI hw ⟨rfl, frm_rf⟩⟩
          · rw [if_neg hc, if_neg hc, nI_remE (by omega) (by decide) (by decide), nI_divE (by omega) (by decide) (by decide)]
            exact ⟨fun _ => ⟨fun y => mk_kI hw ⟨(if_neg y).symm, frm_rf⟩, fun y => mk_kI hw ⟨(if_pos y).symm, frm_rf⟩⟩, fun y => absurd (nI_0le (by omega)) y⟩
        | some b =>
          obtain ⟨hb, hE⟩ := ms_some hm
          obtain ⟨hlt, hgb⟩ := isE_b hE
          have e1 : brkN (n + 1) g c f = brkN n (flip g (b / 40) (b % 40)) (c + 1) (if c = 0 then b else f) := by show (match ms g 1600 with | none => _ | some e => _) = _; rw [hm]
          have hf' := GF_flip hf (u := b / 40) (v := b % 40) (by omega) (by omega) (by omega)
          have hec' := ec_dec hf hE hb hec
          rw [e1, show oi (some b) = nI b from rfl, nI_remE (by omega) (by decide) (by decide), nI_divE (by omega) (by decide) (by decide), nI_add]
          refine ⟨fun _ => ⟨fun z => use_kV (m_leaves_ hw hg hf (by omega) (by omega) (by omega) hgb) (fun h4 hw4 ⟨a1, a2⟩ => ?_), fun z => use_kV (m_leaves_ hw hg hf (by omega) (by omega) (by omega) hgb) (fun h4 hw4 ⟨a1, a2⟩ => ?_)⟩, fun z => absurd (nI_0le (by omega)) z⟩
          · have hc : c ≠ 0 := fun y => by
              unfold oc at z
              rw [if_pos y] at z
              exact absurd z (by decide)
            have := ihn (by omega) h4 _ (c + 1) (if c = 0 then b else f) hw4 hf' hec' a1 (by rw [if_neg hc]; exact hf1) (by omega)
            rw [show oc (c + 1) (if c = 0 then b else f) = oc c f by unfold oc; rw [if_neg (by omega), if_neg hc, if_neg hc]] at this
            exact zq_mono this (fun r h' ⟨r1, r2, r3, r4, r5⟩ => ⟨r1, r2, r3, r4, frm_tr a2 r5⟩)
          · have hc : c = 0 := Classical.byContradiction (fun y => z (by
              unfold oc
              rw [if_neg y]
              exact nI_0le (by omega)))
            have := ihn (by omega) h4 _ (c + 1) (if c = 0 then b else f) hw4 hf' hec' a1 (by rw [if_pos hc]; exact hb) (by omega)
            rw [show oc (c + 1) (if c = 0 then b else f) = nI b by unfold oc; rw [if_neg (by omega), if_pos hc]] at this
            exact zq_mono this (fun r h' ⟨r1, r2, r3, r4, r5⟩ => ⟨r1, r2, r3, r4, frm_tr a2 r5⟩)
      · have hm := mo_le g (ms g e)
        have hs := sup_le g e
        rw [ms_s] at ih
        refine r_X11_broken_25 _ _ _ _ _ hw ⟨fun z => absurd ((nI_leE (by decide) (by omega)).mp z) (by omega), fun _ => use_pI (m_isLeft hw hg he) ?_⟩
        rw [nI_add]
        refine ⟨fun z => ?_, fun z => use_pI (m_supportLeft hw hg he) ?_⟩
        · rw [if_neg (fun y => by rw [bFb z] at y; exact absurd y.1 (by decide))] at ih
          exact ih
        · have zt := bTb z
          cases ho : ms g e with
          | none =>
            rw [ho] at ih
            refine ⟨fun y => absurd y (by decide), fun _ => ?_⟩
            rw [nI_leE (by omega) (by decide)]
            refine ⟨fun y => ?_, fun y => ?_⟩
            · rw [if_neg (fun k => by have : 0 < sup g e := k.2; omega)] at ih; exact ih
            · rw [if_pos ⟨zt, by show 0 < sup g e; omega⟩] at ih; exact ih
          | some b =>
            rw [ho] at ih
            have hb := (ms_some ho).1
            have hsb := sup_le g b
            refine ⟨fun _ => use_pI (m_supportLeft hw hg (by omega)) ?_, fun y => absurd (nI_0le (a := b) (by omega)) y⟩
            rw [nI_leE (by omega) (by omega)]
            refine ⟨fun y => ?_, fun y => ?_⟩
            · rw [if_neg (fun k => by have : sup g b < sup g e := k.2; omega)] at ih; exact ih
            · rw [if_pos ⟨zt, by show sup g b < sup g e; omega⟩] at ih; exact ih
    exact key 0 (Nat.zero_le _)
theorem p_broken {cc : Nat} (x : Int32) (hw : zWF h) (hN : NET cc h) : zK (d + 10) m_X10_broken [.ref 1, .int x] h (kI fun a h1 => zK (d + 10) m_X11_broken [.ref 53, .int x] h1 (kI fun b h2 => a = b ∧ NET cc h2 ∧ frm [21] [22, 61] h h2)) := by
  have hN1 := hN
  obtain ⟨s, n, en, qc, qm, qn⟩ := hN
  have no : (x < 0 ∨ ¬ x ≤ nI 2) → zK (d + 10) m_X11_broken [.ref 53, .int x] h (kI fun b h2 => (-1 : Int32) = b ∧ NET cc h2 ∧ frm [21] [22, 61] h h2) := by
    intro q
    refine r_X11_broken_0 _ hw (use_pI (m_isIn _ _ _) ?_)
    have e : (decide (¬ x < nI 0) && decide (¬ nI 2 < x)) = false := by
      rw [Bool.and_eq_false_iff, decide_eq_false_iff_not, decide_eq_false_iff_not]
      rcases q with q | q
      · exact Or.inl (fun z => z q)
      · exact Or.inr (fun z => q (Int32.not_lt.mp z))
    rw [e]
    exact ⟨fun q => absurd bf0 q, fun _ => mk_kI hw ⟨rfl, hN1, frm_rf⟩⟩
  refine r_X10_broken_0 _ hw ⟨fun q => mk_kI hw (no (Or.inl q)), fun q1 => ⟨fun q2 => ?_, fun q => mk_kI hw (no (Or.inr q))⟩⟩
  have e : (decide (¬ x < nI 0) && decide (¬ nI 2 < x)) = true := by
    rw [Bool.and_eq_true, decide_eq_true_iff, decide_eq_true_iff]
    exact ⟨q1, Int32.not_lt.mpr q2⟩
  refine use_kV (c_breakAll (d := d + 4) hw (by rw [qc.1.1]; exact qn.1.1)) (fun h3 hw3 ⟨a1, a2, a3, a4⟩ => ?_)
  rw [qc.1.1] at a1 a2 a3
  have qc3 := cN_frm a4 qc (by decide) (by decide)
  have qm3 := mN_frm a4 qm (by decide) (by decide)
  have hlt := br_lt 780 s.f 0 0 (by decide)
  have M : ∀ v : Int32, v = bans (brkN 780 s.f 0 0).1 (brkN 780 s.f 0 0).2 x → kI (fun a h1 => zK (d + 10) m_X11_broken [.ref 53, .int x] h1 (kI fun b h2 => a = b ∧ NET cc h2 ∧ frm [21] [22, 61] h h2)) (some (.int v)) h3 := by
    intro v hv
    refine mk_kI hw3 (r_X11_broken_0 _ hw3 (use_pI (m_isIn _ _ _) ?_))
    rw [e]
    refine ⟨fun _ => use_kV (m_leaves hw3) (fun h4 hw4 ⟨b1, b2⟩ => ?_), fun q => absurd q bt0⟩
    refine zq_mono (m_breakLoop (d := d + 6) 780 (Nat.le_refl _) h4 s.f 0 0 hw4 qn.1.1 (ec_le _) (fun k hk => by rw [b1 k hk, qm3.1.1]) (by decide) (by decide)) (fun r h5 ⟨b, r1, r2, r3, r4⟩ => ⟨b, r1, r2, hv.trans r3.symm, ⟨s, n, en, cN_frm r4 (cN_frm b2 qc3 (by decide) (by decide)) (by decide) (by decide), mN_frm r4 (mN_frm b2 qm3 (by decide) (by decide)) (by decide) (by decide), qn⟩, frm_tr (frm_up a4 (by decide) (by decide)) (frm_tr (frm_up b2 (by decide) (by decide)) (frm_up r4 (by decide) (by decide)))⟩)
  rw [a1, nI_eq0 (by omega)]
  refine ⟨fun z => ⟨fun y => ⟨fun w => M _ ?_, fun w => M _ ?_⟩, fun y => M _ ?_⟩, fun z => M _ ?_⟩
  · have y' : (brkN 780 s.f 0 0).1 ≠ 0 := fun k => y (by rw [k]; exact nI_0)
    rw [a2 y', nI_remE (by omega) (by decide) (by decide), bans, if_neg z, if_neg y', if_neg w]
  · have y' : (brkN 780 s.f 0 0).1 ≠ 0 := fun k => y (by rw [k]; exact nI_0)
    rw [a2 y', nI_divE (by omega) (by decide) (by decide), bans, if_neg z, if_neg y', if_pos w]
  · rw [bans, if_neg z, if_pos y]
  · rw [bans, if_pos z]
end BROKEN
