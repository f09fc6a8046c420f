/-! a part of a BATCH, read on both sides -/
abbrev PT : Type := Nat × Nat × Nat × Int32
abbrev SS : Type := Nat × Option Nat
theorem four {x a b c e : Int32} {X F : Prop} (A : (x = a ∨ x = b ∨ x = c ∨ x = e) → X) (B : (x ≠ a ∧ x ≠ b ∧ x ≠ c ∧ x ≠ e) → F) : (x = a → X) ∧ (¬ x = a → (x = b → X) ∧ (¬ x = b → (x = c → X) ∧ (¬ x = c → (x = e → X) ∧ (¬ x = e → F)))) :=
  ⟨fun z => A (Or.inl z), fun z1 => ⟨fun z => A (Or.inr (Or.inl z)), fun z2 => ⟨fun z => A (Or.inr (Or.inr (Or.inl z))), fun z3 => ⟨fun z => A (Or.inr (Or.inr (Or.inr z))), fun z4 => B ⟨z1, z2, z3, z4⟩⟩⟩⟩⟩
def sFail (len a : Nat) (s : SS) : SS := (if s.2.isSome = true then s.1 else len, fl s.2 a)
def sTake (len : Nat) (T : Nat → Nat) (t : Nat) (s : SS) : SS := (if tk len T s.1 t = true then s.1 + 1 else s.1, s.2)
def sNeed (len : Nat) (T : Nat → Nat) (t : Nat) (s : SS) : SS := if tk len T s.1 t = true then (s.1 + 1, s.2) else sFail len s.1 s
def sNum (len : Nat) (T : Nat → Nat) (n gr : Nat) (s : SS) : SS := if nok len T n gr s.1 = true then ((rd len T n s.1 0).1, s.2) else (if s.2.isSome = true then (rd len T n s.1 0).1 else len, fl s.2 s.1)
def sOther (len : Nat) (T : Nat → Nat) (u : Nat) (s : SS) : SS := if (rd len T 2 s.1 0).2 = u then sFail len s.1 (sNum len T 2 39 s) else sNum len T 2 39 s
def CS (h : AH) (len : Nat) (T : Nat → Nat) (s : SS) : Prop := CT h len T s.1 s.2
theorem CT_o {h h' : AH} {len p k j : Nat} {T : Nat → Nat} {ft : Option Nat} {x : Int32} (c : CT h len T p ft) (e : h' = h.sI k j x) (h1 : k ≠ 23) (h2 : k ≠ 24) : CT h' len T p ft := by
  obtain ⟨a1, a2, a3, a4, a5, a6, a7⟩ := c
  have e23 : h'.I 23 = h.I 23 := by rw [e]; show va_up h.I k _ 23 = _; exact va_up_ne _ _ (fun q => h1 q.symm)
  have e24 : h'.I 24 = h.I 24 := by rw [e]; show va_up h.I k _ 24 = _; exact va_up_ne _ _ (fun q => h2 q.symm)
  exact ⟨by rw [e23]; exact a1, a2, fun i hi => by rw [e24]; exact a3 i hi, by rw [e23]; exact a4, a5, by rw [e23]; exact a6, a7⟩
theorem sI_n {h : AH} {k j r : Nat} {x : Int32} (hr : r ≠ k) : (h.sI k j x).I r = h.I r := va_up_ne _ _ hr
theorem sI_e {h h' : AH} {k j : Nat} {x : Int32} (e : h' = h.sI k j x) : h'.I k j = x := by rw [e, AH.sI_I, va_up_self]
theorem sI_r {h h' : AH} {k j r : Nat} {x : Int32} (e : h' = h.sI k j x) (hr : r ≠ k) : h'.I r = h.I r := by rw [e]; exact va_up_ne _ _ hr
def slot (h : AH) (i : Nat) (t : PT) : Prop := h.I 26 i = nI t.1 ∧ h.I 27 i = nI t.2.1 ∧ h.I 28 i = nI t.2.2.1 ∧ h.I 29 i = t.2.2.2
def pfr (i : Nat) (h h' : AH) : Prop := frm [23, 26, 27, 28, 29] [] h h' ∧ ∀ j, j ≠ i → h'.I 26 j = h.I 26 j ∧ h'.I 27 j = h.I 27 j ∧ h'.I 28 j = h.I 28 j ∧ h'.I 29 j = h.I 29 j
theorem pfr_rf {i : Nat} {h : AH} : pfr i h h := ⟨frm_rf, fun _ _ => ⟨rfl, rfl, rfl, rfl⟩⟩
theorem pfr_tr {i : Nat} {h h1 h2 : AH} (a : pfr i h h1) (b : pfr i h1 h2) : pfr i h h2 := ⟨frm_tr a.1 b.1, fun j q => by
  obtain ⟨a1, a2, a3, a4⟩ := a.2 j q
  obtain ⟨b1, b2, b3, b4⟩ := b.2 j q
  exact ⟨b1.trans a1, b2.trans a2, b3.trans a3, b4.trans a4⟩⟩
theorem pfr_23 {i : Nat} {h h1 : AH} (a : frm [23] [] h h1) : pfr i h h1 := ⟨frm_up a (by decide) (by decide), fun j _ => by
  rw [frm_I a (show 26 ∉ [23] by decide), frm_I a (show 27 ∉ [23] by decide), frm_I a (show 28 ∉ [23] by decide), frm_I a (show 29 ∉ [23] by decide)]
  exact ⟨rfl, rfl, rfl, rfl⟩⟩
theorem va_up2 {f : Nat → Nat → Int32} {k i : Nat} {x : Int32} (r : Nat) {j : Nat} (hj : j ≠ i) : va_up f k (va_up (f k) i x) r j = f r j := by
  by_cases e : r = k
  · subst e; rw [va_up_self, va_up_ne _ _ hj]
  · rw [va_up_ne _ _ e]
theorem pfr_s {i k : Nat} {h h1 : AH} {x : Int32} (e : h1 = h.sI k i x) (hk : k = 26 ∨ k = 27 ∨ k = 28 ∨ k = 29) : pfr i h h1 := by
  refine ⟨frm_wI e (by rcases hk with q | q | q | q <;> subst q <;> decide), fun j hj => ?_⟩
  subst e
  exact ⟨va_up2 26 hj, va_up2 27 hj, va_up2 28 hj, va_up2 29 hj⟩
theorem v54 {i : Nat} (h : i < 54) : vp_in (nI i) 54 := vp_in_nI h (by decide)
section PART
variable {d : Nat} {h : AH} {len : Nat} {T : Nat → Nat} {s : SS}
theorem c_numS {n gr : Nat} (hn : n ≤ 7) (hgr : gr ≤ 2000000) (hT : ∀ i, i < len → T i ≤ 127) (hw : zWF h) (hC : CS h len T s) : zK (d + 2) m_X9_number [.ref 23, .int (nI n), .int (nI gr)] h (kI (fun x h' => x = nI (rd len T n s.1 0).2 ∧ CS h' len T (sNum len T n gr s) ∧ frm [23] [] h h')) := by
  refine use_kI (c_number hn hgr hT hw hC) (fun x h' hw' ⟨a1, a2, a3⟩ => ⟨a1, ?_, a3⟩)
  unfold CS sNum
  by_cases z : nok len T n gr s.1 = true
  · rw [if_pos z, if_pos z] at a2
    rw [if_pos z]
    exact a2
  · rw [if_neg z, if_neg z] at a2
    rw [if_neg z]
    exact a2
theorem c_takeS {t : Nat} (ht : t ≤ 160) (hw : zWF h) (hC : CS h len T s) : zK (d + 2) m_X9_takes [.ref 23, .int (nI t)] h (kI (fun x h' => x = bI (tk len T s.1 t) ∧ CS h' len T (sTake len T t s) ∧ frm [23] [] h h')) := c_takes ht hw hC
theorem c_needS {t : Nat} (ht : t ≤ 160) (hw : zWF h) (hC : CS h len T s) : zK (d + 3) m_X9_need [.ref 23, .int (nI t)] h (kV (fun h' => CS h' len T (sNeed len T t s) ∧ frm [23] [] h h')) := by
  refine use_kV (c_need ht hw hC) (fun h' hw' ⟨a2, a3⟩ => ⟨?_, a3⟩)
  unfold CS sNeed sFail
  by_cases z : tk len T s.1 t = true
  · rw [if_pos z, if_pos z] at a2
    rw [if_pos z]
    exact a2
  · rw [if_neg z, if_neg z] at a2
    rw [if_neg z]
    exact a2
theorem c_failS {a : Nat} (ha : a ≤ 160) (hw : zWF h) (hC : CS h len T s) : zK (d + 1) m_X9_fail [.ref 23, .int (nI a)] h (kV (fun h' => CS h' len T (sFail len a s) ∧ frm [23] [] h h')) := c_fail ha hw hC
theorem CS_p (hC : CS h len T s) : s.1 ≤ 160 := Nat.le_trans hC.2.2.2.2.1 hC.2.1
theorem c_readVertex (hT : ∀ i, i < len → T i ≤ 127) (hw : zWF h) (hC : CS h len T s) : zK (d + 3) m_X0_readVertex [.ref 23] h (kI (fun x h' => x = nI (rd len T 2 s.1 0).2 ∧ CS h' len T (sNum len T 2 39 s) ∧ frm [23] [] h h')) :=
  r_X0_readVertex_0 hw (use_kI (c_numS (by decide) (by decide) hT hw hC) (fun x h' hw' q => mk_kI hw' q))
theorem rd2_b (p : Nat) : (rd len T 2 p 0).2 < 100 := rd_a 2 p 0
theorem c_readOther {u : Nat} (hu : u < 100) (hT : ∀ i, i < len → T i ≤ 127) (hw : zWF h) (hC : CS h len T s) : zK (d + 4) m_X0_readOther [.ref 23, .int (nI u)] h (kI (fun x h' => x = nI (rd len T 2 s.1 0).2 ∧ CS h' len T (sOther len T u s) ∧ frm [23] [] h h')) := by
  refine r_X0_readOther_0 _ hw (use_kI (c_readVertex hT hw hC) (fun x h1 hw1 ⟨a1, a2, a3⟩ => ?_))
  subst a1
  have hb := rd2_b (len := len) (T := T) s.1
  rw [hC.2.2.2.1, ne_eq, nI_eqE (by omega) (by omega)]
  unfold sOther
  refine ⟨fun z => mk_kI hw1 ⟨rfl, by rw [if_neg z]; exact a2, a3⟩, fun z => use_kV (c_failS (CS_p hC) hw1 a2) (fun h4 hw4 ⟨b1, b2⟩ => mk_kI hw4 ⟨rfl, by rw [if_pos z]; exact b1, frm_tr a3 b2⟩)⟩
def wv (len : Nat) (T : Nat → Nat) (p : Nat) : Int32 := if tk len T p 45 = true then - nI (rd len T 7 (p + 1) 0).2 else nI (rd len T 7 p 0).2
theorem sTake_t {t : Nat} (e : tk len T s.1 t = true) : sTake len T t s = (s.1 + 1, s.2) := by unfold sTake; rw [if_pos e]
theorem sTake_f {t : Nat} (e : tk len T s.1 t = false) : sTake len T t s = s := by unfold sTake; rw [e]; rfl
theorem c_readWorth (hT : ∀ i, i < len → T i ≤ 127) (hw : zWF h) (hC : CS h len T s) : zK (d + 3) m_X0_readWorth [.ref 23] h (kI (fun x h' => x = wv len T s.1 ∧ CS h' len T (sNum len T 7 2000000 (sTake len T 45 s)) ∧ frm [23] [] h h')) := by
  refine r_X0_readWorth_0 hw (use_kI (c_takeS (by decide) hw hC) (fun x h1 hw1 ⟨a1, a2, a3⟩ => ?_))
  refine use_kI (c_numS (by decide) (by decide) hT hw1 a2) (fun y h3 hw3 ⟨b1, b2, b3⟩ => ?_)
  subst a1 b1
  unfold wv
  cases e : tk len T s.1 45 with
  | true => 
    rw [sTake_t e] at b2 ⊢
    exact ⟨fun z => absurd z bt0, fun _ => mk_kI hw3 ⟨by rw [if_pos rfl], b2, frm_tr a3 b3⟩⟩
  | false =>
    rw [sTake_f e] at b2 ⊢
    exact ⟨fun _ => mk_kI hw3 ⟨by rw [if_neg (by decide)], b2, frm_tr a3 b3⟩, fun z => absurd bf0 z⟩
def sP (len : Nat) (T : Nat → Nat) (k : Nat) (s : SS) : SS × PT :=
  let u := (rd len T 2 s.1 0).2
  let s2 := sNum len T 2 39 s
  if k = 42 then (s2, (k, u, u, nI 1)) else
  let s3 := sNeed len T 44 s2
  let v := (rd len T 2 s3.1 0).2
  let s4 := sOther len T u s3
  if k = 43 ∧ tk len T s4.1 61 = true then
    let s5 := sTake len T 61 s4
    (sNum len T 7 2000000 (sTake len T 45 s5), (k, u, v, wv len T s5.1))
  else (s4, (k, u, v, nI 1))
def isK (k : Nat) : Bool := decide (k = 43) || (decide (k = 45) || (decide (k = 126) || decide (k = 42)))
def sPart (len : Nat) (T : Nat → Nat) (s : SS) : SS × PT := if (decide (s.1 < len) && isK (T s.1)) = true then sP len T (T s.1) (s.1 + 1, s.2) else (sFail len s.1 s, (0, 0, 0, 0))
theorem nx_in {p k : Nat} (hk : k ≤ 160) (e : nx len T p = nI k) : p < len := tk_lt hk (decide_eq_true e)
theorem nx_eq {p k : Nat} (hT : ∀ i, i < len → T i ≤ 127) (hk : k ≤ 160) (e : nx len T p = nI k) : T p = k := by
  have hp := nx_in hk e
  have := hT p hp
  unfold nx at e
  rw [if_pos hp] at e
  exact (nI_eqE (by omega) (by omega)).mp e
theorem c_readPart {i : Nat} (hi : i < 54) (hT : ∀ i, i < len → T i ≤ 127) (hw : zWF h) (hC : CS h len T s) : zK (d + 5) m_X0_readPart [.ref 25, .ref 23, .int (nI i)] h (kV (fun h' => pfr i h h' ∧ CS h' len T (sPart len T s).1 ∧ ((decide (s.1 < len) && isK (T s.1)) = true → slot h' i (sPart len T s).2))) := by
  have hp := CS_p hC
  refine r_X0_readPart_0 _ hw (use_pI (c_next hw hC) (four (fun z => ?_) (fun ⟨z1, z2, z3, z4⟩ => ?_)))
  · have hlt : s.1 < len := by
      rcases z with z | z | z | z
      · exact nx_in (by decide) z
      · exact nx_in (by decide) z
      · exact nx_in (by decide) z
      · exact nx_in (by decide) z
    have hk : (decide (s.1 < len) && isK (T s.1)) = true := by
      rw [decide_eq_true hlt, Bool.true_and]
      rcases z with z | z | z | z
      · rw [nx_eq hT (by decide) z]; rfl
      · rw [nx_eq hT (by decide) z]; rfl
      · rw [nx_eq hT (by decide) z]; rfl
      · rw [nx_eq hT (by decide) z]; rfl
    have h127 := hT _ hlt
    have enx : nx len T s.1 = nI (T s.1) := if_pos hlt
    clear z
    have ep : sPart len T s = sP len T (T s.1) (s.1 + 1, s.2) := if_pos hk
    rw [ep]
    rw [enx]
    intro h3 q3
    have c3 : CS h3 len T (s.1 + 1, s.2) := CT_step hC hlt q3
    have f3 : pfr i h h3 := pfr_23 (frm_wI q3 (by decide))
    have hw3 := wf_I q3 hw
    clear hk ep enx q3
    generalize T s.1 = k at h127 ⊢
    generalize (s.1 + 1, s.2) = s1 at c3 ⊢
    refine ⟨v54 hi, fun h5 q5 => ?_⟩
    rw [cl_n hi (by decide)] at q5
    have hw5 := wf_I q5 hw3
    have c5 : CS h5 len T s1 := CT_o c3 q5 (by decide) (by decide)
    have f5 := pfr_tr f3 (pfr_s q5 (by decide))
    refine use_kI (c_readVertex hT hw5 c5) (fun x h6 hw6 ⟨a1, a2, a3⟩ => ⟨v54 hi, fun h9 q9 => ⟨v54 hi, v54 hi, fun h12 q12 => ⟨v54 hi, fun h14 q14 => ?_⟩⟩⟩)
    rw [cl_n hi (by decide)] at q9 q12 q14
    have hu := rd2_b (len := len) (T := T) s1.1
    have hw9 := wf_I q9 hw6
    have hw12 := wf_I q12 hw9
    have hw14 := wf_I q14 hw12
    have c14 : CS h14 len T (sNum len T 2 39 s1) := CT_o (CT_o (CT_o a2 q9 (by decide) (by decide)) q12 (by decide) (by decide)) q14 (by decide) (by decide)
    have f14 := pfr_tr f5 (pfr_tr (pfr_23 a3) (pfr_tr (pfr_s q9 (by decide)) (pfr_tr (pfr_s q12 (by decide)) (pfr_s q14 (by decide)))))
    have s26 : h14.I 26 i = nI k := by rw [sI_r q14 (by decide), sI_r q12 (by decide), sI_r q9 (by decide), frm_I a3 (by decide)]; exact sI_e q5
    have s27 : h14.I 27 i = nI (rd len T 2 s1.1 0).2 := by rw [sI_r q14 (by decide), sI_r q12 (by decide), sI_e q9]; exact a1
    have s28 : h14.I 28 i = nI (rd len T 2 s1.1 0).2 := by rw [sI_r q14 (by decide), sI_e q12, sI_e q9]; exact a1
    have s29 : h14.I 29 i = nI 1 := sI_e q14
    clear q14 q12 q9 q5 a2 a1 a3
    unfold sP
    rw [ne_eq, nI_eqE (by omega) (by decide), nI_eqE (by omega) (by decide)]
    refine ⟨fun z => ⟨fun _ => mk_kV hw14 ⟨f14, ?_, fun _ => ?_⟩, fun y => absurd y (by omega)⟩, fun z => use_kV (c_needS (by decide) hw14 c14) (fun h24 hw24 ⟨b1, b2⟩ => ⟨v54 hi, ?_⟩)⟩
    · rw [if_pos z]; exact c14
    · rw [if_pos z]; exact ⟨s26, s27, s28, s29⟩
    · rw [if_neg z]
      have e27 : h24.I 27 (nI i).toNatClampNeg = nI (rd len T 2 s1.1 0).2 := by rw [cl_n hi (by decide), frm_I b2 (by decide)]; exact s27
      rw [e27]
      refine use_kI (c_readOther hu hT hw24 b1) (fun x27 h26 hw26 ⟨d1, d2, d3⟩ => ⟨v54 hi, fun h29 q29 => ?_⟩)
      rw [cl_n hi (by decide)] at q29
      have hw29 := wf_I q29 hw26
      have c29 : CS h29 len T (sOther len T (rd len T 2 s1.1 0).2 (sNeed len T 44 (sNum len T 2 39 s1))) := CT_o d2 q29 (by decide) (by decide)
      have f29 := pfr_tr f14 (pfr_tr (pfr_23 b2) (pfr_tr (pfr_23 d3) (pfr_s q29 (by decide))))
      have t26 : h29.I 26 i = nI k := by
        rw [sI_r q29 (by decide), frm_I d3 (by decide), frm_I b2 (by decide)]; exact s26
      have t27 : h29.I 27 i = nI (rd len T 2 s1.1 0).2 := by
        rw [sI_r q29 (by decide), frm_I d3 (by decide), frm_I b2 (by decide)]; exact s27
      have t28 : h29.I 28 i = nI (rd len T 2 (sNeed len T 44 (sNum len T 2 39 s1)).1 0).2 := by
        rw [sI_e q29]; exact d1
      have t29 : h29.I 29 i = nI 1 := by
        rw [sI_r q29 (by decide), frm_I d3 (by decide), frm_I b2 (by decide)]; exact s29
      clear q29 d1 d2 d3 b1 b2 c14 s26 s27 s28 s29 e27
      refine ⟨fun y => mk_kV hw29 ⟨f29, ?_, fun _ => ?_⟩, fun y => use_kI (c_takeS (by decide) hw29 c29) (fun x32 h31 hw31 ⟨g1, g2, g3⟩ => ?_)⟩
      · rw [if_neg (fun q => y q.1)]; exact c29
      · rw [if_neg (fun q => y q.1)]; exact ⟨t26, t27, t28, t29⟩
      · subst g1
        cases e : tk len T (sOther len T (rd len T 2 s1.1 0).2 (sNeed len T 44 (sNum len T 2 39 s1))).1 61 with
        | false =>
          rw [sTake_f e] at g2
          refine ⟨fun _ => mk_kV hw31 ⟨pfr_tr f29 (pfr_23 g3), ?_, fun _ => ?_⟩, fun q => absurd bf0 q⟩
          · rw [if_neg (fun q => absurd (e.symm.trans q.2) (by decide))]; exact g2
          · rw [if_neg (fun q => absurd (e.symm.trans q.2) (by decide))]
            exact ⟨by rw [frm_I g3 (by decide)]; exact t26, by rw [frm_I g3 (by decide)]; exact t27, by rw [frm_I g3 (by decide)]; exact t28, by rw [frm_I g3 (by decide)]; exact t29⟩
        | true =>
          refine ⟨fun q => absurd q bt0, fun _ => use_kI (c_readWorth hT hw31 g2) (fun x35 h34 hw34 ⟨k1, k2, k3⟩ => ⟨v54 hi, fun h37 q37 => ?_⟩)⟩
          rw [cl_n hi (by decide)] at q37
          have f37 := pfr_tr f29 (pfr_tr (pfr_23 g3) (pfr_tr (pfr_23 k3) (pfr_s q37 (by decide))))
          refine mk_kV (wf_I q37 hw34) ⟨f37, ?_, fun _ => ?_⟩
          · rw [if_pos ⟨y, e⟩]; exact CT_o k2 q37 (by decide) (by decide)
          · rw [if_pos ⟨y, e⟩]
            refine ⟨?_, ?_, ?_, ?_⟩
            · rw [q37]
              show h34.I 26 i = _
              rw [frm_I k3 (by decide), frm_I g3 (by decide)]; exact t26
            · rw [q37]
              show h34.I 27 i = _
              rw [frm_I k3 (by decide), frm_I g3 (by decide)]; exact t27
            · rw [q37]
              show h34.I 28 i = _
              rw [frm_I k3 (by decide), frm_I g3 (by decide)]; exact t28
            · rw [sI_e q37]; exact k1
  · have hk : (decide (s.1 < len) && isK (T s.1)) = false := by
      by_cases y : s.1 < len
      · rw [decide_eq_true y, Bool.true_and]
        have enx : nx len T s.1 = nI (T s.1) := if_pos y
        have h127 := hT _ y
        rw [enx, ne_eq, nI_eqE (by omega) (by decide)] at z1 z2 z3 z4
        unfold isK
        rw [decide_eq_false z1, decide_eq_false z2, decide_eq_false z3, decide_eq_false z4]; rfl
      · rw [decide_eq_false y]; rfl
    have ep : sPart len T s = (sFail len s.1 s, (0, 0, 0, 0)) := by unfold sPart; rw [hk]; rfl
    rw [ep, hC.2.2.2.1]
    exact use_kV (c_failS hp hw hC) (fun h4 hw4 ⟨b1, b2⟩ => mk_kV hw4 ⟨pfr_23 b2, b1, fun q => absurd (hk.symm.trans q) (by decide)⟩)
end PART
