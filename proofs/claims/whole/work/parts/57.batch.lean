/-! all parts of a BATCH -/
def btc (len : Nat) (T : Nat → Nat) : Nat → Nat → Option Nat × List PT
  | 0, _ => (none, [])
  | n + 1, p => match (sPart len T (p, none)).1.2 with
    | some f => (some f, [])
    | none => if tk len T (sPart len T (p, none)).1.1 59 = true then ((btc len T n ((sPart len T (p, none)).1.1 + 1)).1, (sPart len T (p, none)).2 :: (btc len T n ((sPart len T (p, none)).1.1 + 1)).2) else (if (sPart len T (p, none)).1.1 < len then some (sPart len T (p, none)).1.1 else none, [(sPart len T (p, none)).2])
theorem btc_s (len : Nat) (T : Nat → Nat) (n p : Nat) : btc len T (n + 1) p = match (sPart len T (p, none)).1.2 with
    | some f => (some f, [])
    | none => if tk len T (sPart len T (p, none)).1.1 59 = true then ((btc len T n ((sPart len T (p, none)).1.1 + 1)).1, (sPart len T (p, none)).2 :: (btc len T n ((sPart len T (p, none)).1.1 + 1)).2) else (if (sPart len T (p, none)).1.1 < len then some (sPart len T (p, none)).1.1 else none, [(sPart len T (p, none)).2]) := rfl
theorem btc_f {len n p f : Nat} {T : Nat → Nat} (e : (sPart len T (p, none)).1.2 = some f) : btc len T (n + 1) p = (some f, []) := by rw [btc_s, e]
theorem btc_n {len n p : Nat} {T : Nat → Nat} (e : (sPart len T (p, none)).1.2 = none) (t : tk len T (sPart len T (p, none)).1.1 59 = true) : btc len T (n + 1) p = ((btc len T n ((sPart len T (p, none)).1.1 + 1)).1, (sPart len T (p, none)).2 :: (btc len T n ((sPart len T (p, none)).1.1 + 1)).2) := by
  rw [btc_s, e]
  show (if tk len T (sPart len T (p, none)).1.1 59 = true then _ else _) = _
  rw [if_pos t]
theorem btc_e {len n p : Nat} {T : Nat → Nat} (e : (sPart len T (p, none)).1.2 = none) (t : tk len T (sPart len T (p, none)).1.1 59 = false) : btc len T (n + 1) p = (if (sPart len T (p, none)).1.1 < len then some (sPart len T (p, none)).1.1 else none, [(sPart len T (p, none)).2]) := by
  rw [btc_s, e]
  show (if tk len T (sPart len T (p, none)).1.1 59 = true then _ else _) = _
  rw [if_neg (by rw [t]; decide)]
theorem btc_len {len : Nat} {T : Nat → Nat} : ∀ n p, (btc len T n p).2.length ≤ n
  | 0, p => Nat.le_refl _
  | n + 1, p => by
    cases e : (sPart len T (p, none)).1.2 with
    | some f => rw [btc_f e]; exact Nat.zero_le _
    | none =>
      cases t : tk len T (sPart len T (p, none)).1.1 59 with
      | true =>
        rw [btc_n e t]
        exact Nat.succ_le_succ (btc_len n _)
      | false => rw [btc_e e t]; exact Nat.succ_le_succ (Nat.zero_le _)
theorem btc_pok {len : Nat} {T : Nat → Nat} (hlen : len ≤ 160) : ∀ n p, ∀ t ∈ (btc len T n p).2, pok t
  | 0, p, t, h => by cases h
  | n + 1, p, t, h => by
    cases e : (sPart len T (p, none)).1.2 with
    | some f => rw [btc_f e] at h; cases h
    | none =>
      have hp := (sPart_no hlen e).2.2
      cases k : tk len T (sPart len T (p, none)).1.1 59 with
      | true =>
        rw [btc_n e k] at h
        rcases List.mem_cons.mp h with q | q
        · rw [q]; exact hp
        · exact btc_pok hlen n _ t q
      | false =>
        rw [btc_e e k] at h
        rcases List.mem_cons.mp h with q | q
        · rw [q]; exact hp
        · cases q
def slots (h : AH) : Nat → List PT → Prop
  | _, [] => True
  | i, t :: ts => slot h i t ∧ slots h (i + 1) ts
def mslots (h : AH) : Nat → List PT → Prop
  | _, [] => True
  | i, t :: ts => mslot h (4 * i) t ∧ mslots h (i + 1) ts
theorem slots_eq {h h' : AH} (e26 : h'.I 26 = h.I 26) (e27 : h'.I 27 = h.I 27) (e28 : h'.I 28 = h.I 28) (e29 : h'.I 29 = h.I 29) : ∀ (l : List PT) i, slots h i l → slots h' i l
  | [], _, _ => trivial
  | t :: ts, i, ⟨q, r⟩ => ⟨by unfold slot; rw [e26, e27, e28, e29]; exact q, slots_eq e26 e27 e28 e29 ts (i + 1) r⟩
theorem mslots_eq {h h' : AH} (e : h'.I 67 = h.I 67) : ∀ (l : List PT) i, mslots h i l → mslots h' i l
  | [], _, _ => trivial
  | t :: ts, i, ⟨q, r⟩ => ⟨by unfold mslot; rw [e]; exact q, mslots_eq e ts (i + 1) r⟩
/-- what reading a BATCH writes, from place i of the rows on -/
def qfr (i : Nat) (h h' : AH) : Prop := frm [23, 25, 26, 27, 28, 29] [] h h' ∧ ∀ j, j < i → h'.I 26 j = h.I 26 j ∧ h'.I 27 j = h.I 27 j ∧ h'.I 28 j = h.I 28 j ∧ h'.I 29 j = h.I 29 j
theorem qfr_tr {i : Nat} {h h1 h2 : AH} (a : qfr i h h1) (b : qfr i h1 h2) : qfr i h h2 := ⟨frm_tr a.1 b.1, fun j q => by
  obtain ⟨a1, a2, a3, a4⟩ := a.2 j q
  obtain ⟨b1, b2, b3, b4⟩ := b.2 j q
  exact ⟨b1.trans a1, b2.trans a2, b3.trans a3, b4.trans a4⟩⟩
theorem qfr_up {i k : Nat} (hk : i ≤ k) {h h1 : AH} (a : qfr k h h1) : qfr i h h1 := ⟨a.1, fun j q => a.2 j (by omega)⟩
theorem qfr_p {i : Nat} {h h1 : AH} (a : pfr i h h1) : qfr i h h1 := ⟨frm_up a.1 (by decide) (by decide), fun j q => a.2 j (by omega)⟩
theorem qfr_f {i : Nat} {h h1 : AH} (a : frm [23, 25] [] h h1) : qfr i h h1 := ⟨frm_up a (by decide) (by decide), fun j _ => by
  rw [frm_I a (show 26 ∉ [23, 25] by decide), frm_I a (show 27 ∉ [23, 25] by decide), frm_I a (show 28 ∉ [23, 25] by decide), frm_I a (show 29 ∉ [23, 25] by decide)]
  exact ⟨rfl, rfl, rfl, rfl⟩⟩
section BATCH
variable {d : Nat} {h : AH} {len : Nat} {T : Nat → Nat}
theorem c_needEnd {s : SS} (hg : gd len s) (hw : zWF h) (hC : CS h len T s) : zK (d + 2) m_X9_needEnd [.ref 23] h (kV (fun h' => CS h' len T (if s.1 < len then sFail len s.1 s else s) ∧ frm [23] [] h h')) := by
  have hp := CS_p hC
  have hlen := hC.2.1
  refine r_X9_needEnd_0 hw ?_
  rw [hC.1, hC.2.2.2.1, nI_leE (by omega) (by omega)]
  refine ⟨fun z => mk_kV hw ⟨?_, frm_rf⟩, fun z => use_kV (c_failS hp hw hC) (fun h2 hw2 ⟨b1, b2⟩ => mk_kV hw2 ⟨?_, b2⟩)⟩
  · rw [if_neg (by omega)]; exact hC
  · rw [if_pos (by omega)]; exact b1
theorem c_readLoop : ∀ n i, n + i = 54 → ∀ (h : AH) (p : Nat), (∀ i, i < len → T i ≤ 127) → zWF h → CT h len T p none → 3 * i ≤ p → h.I 25 4 = nI i → zQ none m_X0_read (d + 6) 11 [(0, .ref 25), (1, .ref 23), (2, .int (nI i))] [] h (kV (fun h' => h'.I 23 3 = fi (btc len T n p).1 ∧ (∀ f, (btc len T n p).1 = some f → f ≤ 160) ∧ ((btc len T n p).1 = none → h'.I 25 4 = nI (i + (btc len T n p).2.length) ∧ slots h' i (btc len T n p).2) ∧ qfr i h h')) := by
  intro n
  induction n with
  | zero =>
    intro i hi h p hT hw hC h3 hc
    have a1 := hC.2.2.2.2.1
    have a2 := hC.2.1
    omega
  | succ n ih =>
    intro i hi h p hT hw hC h3 hc
    have hlen := hC.2.1
    refine r_X0_read_11 _ hw ⟨fun z => absurd ((nI_leE (by omega) (by omega)).mp z) (by omega), fun _ => ?_⟩
    refine use_kV (c_readPart (s := (p, none)) (by omega) hT hw hC) (fun h3 hw3 ⟨f3, c3, s3⟩ h4 q4 => ?_)
    have hg : gd len (sPart len T (p, none)).1 := sPart_gd
    have c25 : h3.I 25 4 = nI i := by rw [frm_I f3.1 (by decide)]; exact hc
    rw [c25, nI_add] at q4
    have hw4 := wf_I q4 hw3
    have c4 := CT_o c3 q4 (by decide) (by decide)
    have f4 : qfr i h h4 := qfr_tr (qfr_p f3) (qfr_f (frm_wI q4 (by decide)))
    cases e : (sPart len T (p, none)).1.2 with
    | some f =>
      have es : (sPart len T (p, none)).1 = (len, some f) := by
        rcases gd_e hg with q | ⟨f', q⟩
        · rw [q] at e; cases e
        · rw [q] at e; cases e; exact q
      rw [btc_f e]
      rw [es] at c4
      have hf : f ≤ 160 := c4.2.2.2.2.2.2 f rfl
      refine use_kI (c_takeS (s := (len, some f)) (by decide) hw4 c4) (fun x h5 hw5 ⟨b1, b2, b3⟩ => ?_)
      subst b1
      rw [tk_end (show 59 ≤ 160 by decide)]
      rw [sTake_f (s := (len, some f)) (tk_end (by decide))] at b2
      refine ⟨fun q => absurd bf0 q, fun _ => use_kV (c_needEnd (gd_d _ _) hw5 b2) (fun h8 hw8 ⟨d1, d2⟩ => ?_)⟩
      rw [if_neg (Nat.lt_irrefl _)] at d1
      refine mk_kV hw8 ⟨d1.2.2.2.2.2.1, (fun f' q => by cases q; exact hf), (fun q => by cases q), qfr_tr f4 (qfr_tr (qfr_f (frm_up b3 (by decide) (by decide))) (qfr_f (frm_up d2 (by decide) (by decide))))⟩
    | none =>
      have es : (sPart len T (p, none)).1 = ((sPart len T (p, none)).1.1, none) := Prod.ext rfl e
      obtain ⟨n1, n2, n3⟩ := sPart_no hlen e
      have sl := s3 (sPart_ok rfl e)
      have sl4 : slot h4 i (sPart len T (p, none)).2 := by
        unfold slot
        rw [sI_r q4 (by decide), sI_r q4 (by decide), sI_r q4 (by decide), sI_r q4 (by decide)]
        exact sl
      rw [es] at c4
      refine use_kI (c_takeS (by decide) hw4 c4) (fun x h5 hw5 ⟨b1, b2, b3⟩ => ?_)
      subst b1
      have sl5 : slot h5 i (sPart len T (p, none)).2 := by
        unfold slot
        rw [frm_I b3 (by decide), frm_I b3 (by decide), frm_I b3 (by decide), frm_I b3 (by decide)]
        exact sl4
      have k5 : h5.I 25 4 = nI (i + 1) := by rw [frm_I b3 (by decide)]; exact sI_e q4
      have f5 : qfr i h h5 := qfr_tr f4 (qfr_f (frm_up b3 (by decide) (by decide)))
      cases t : tk len T (sPart len T (p, none)).1.1 59 with
      | true =>
        rw [btc_n e t]
        rw [sTake_t (s := ((sPart len T (p, none)).1.1, none)) t] at b2
        rw [nI_add]
        refine ⟨fun _ => zq_mono (ih (i + 1) (by omega) h5 ((sPart len T (p, none)).1.1 + 1) hT hw5 b2 (by omega) k5) (fun r h' ⟨r0, hw', r1, r2, r3, r4⟩ => ⟨r0, hw', r1, r2, fun q => ?_, qfr_tr f5 (qfr_up (by omega) r4)⟩), fun q => absurd q bt0⟩
        obtain ⟨g1, g2⟩ := r3 q
        refine ⟨by rw [g1, List.length_cons]; congr 1; omega, ?_, g2⟩
        obtain ⟨k1, k2, k3, k4⟩ := r4.2 i (by omega)
        unfold slot
        rw [k1, k2, k3, k4]
        exact sl5
      | false =>
        rw [btc_e e t]
        rw [sTake_f (s := ((sPart len T (p, none)).1.1, none)) t] at b2
        refine ⟨fun q => absurd bf0 q, fun _ => use_kV (c_needEnd (gd_n _ _) hw5 b2) (fun h8 hw8 ⟨d1, d2⟩ => ?_)⟩
        have f8 : qfr i h h8 := qfr_tr f5 (qfr_f (frm_up d2 (by decide) (by decide)))
        by_cases y : (sPart len T (p, none)).1.1 < len
        · rw [if_pos y] at d1 ⊢
          exact mk_kV hw8 ⟨d1.2.2.2.2.2.1, (fun f' q => by cases q; omega), (fun q => by cases q), f8⟩
        · rw [if_neg y] at d1 ⊢
          refine mk_kV hw8 ⟨d1.2.2.2.2.2.1, (fun f' q => by cases q), fun _ => ⟨?_, ?_, trivial⟩, f8⟩
          · rw [frm_I d2 (by decide)]; exact k5
          · unfold slot
            rw [frm_I d2 (by decide), frm_I d2 (by decide), frm_I d2 (by decide), frm_I d2 (by decide)]
            exact sl5
theorem c_readAll (hT : ∀ i, i < len → T i ≤ 127) (hw : zWF h) (a1 : h.I 23 1 = nI len) (a2 : len ≤ 160) (a3 : ∀ i, i < len → h.I 24 i = nI (T i)) : zK (d + 6) m_X0_read [.ref 25, .ref 23] h (kV (fun h' => h'.I 23 3 = fi (btc len T 54 0).1 ∧ (∀ f, (btc len T 54 0).1 = some f → f ≤ 160) ∧ ((btc len T 54 0).1 = none → h'.I 25 4 = nI (btc len T 54 0).2.length ∧ slots h' 0 (btc len T 54 0).2) ∧ frm [23, 25, 26, 27, 28, 29] [] h h')) := by
  refine r_X0_read_0 hw (r_X9_rewind_0 hw (fun h1 q1 h2 q2 => mk_kV (wf_I q2 (wf_I q1 hw)) (fun h3 q3 => ?_)))
  have hw3 := wf_I q3 (wf_I q2 (wf_I q1 hw))
  have c2 : CT h2 len T 0 none := ⟨by rw [q2, q1]; exact a1, a2, fun i hi => by rw [q2, q1]; exact a3 i hi, by rw [q2, q1]; rfl, Nat.zero_le _, by rw [q2]; rfl, (fun f q => by cases q)⟩
  have c3 := CT_o c2 q3 (by decide) (by decide)
  refine zq_mono (c_readLoop 54 0 rfl h3 0 hT hw3 c3 (by decide) (sI_e q3)) (fun r h' ⟨r0, hw', r1, r2, r3, r4⟩ => ⟨r0, hw', r1, r2, fun q => ?_, frm_tr (frm_wI q1 (by decide)) (frm_tr (frm_wI q2 (by decide)) (frm_tr (frm_wI q3 (by decide)) r4.1))⟩)
  obtain ⟨g1, g2⟩ := r3 q
  rw [Nat.zero_add] at g1
  exact ⟨g1, g2⟩
end BATCH
