/-! SPELL, PAPER -/
def et5 (q : Tx) (u v : Nat) : Tx := nt 7 v (tw (nt 7 u (tw (if q.1 = 0 then q else tw q 59) 43)) 44)
def etw (q : Tx) (x : Int32) : Tx := if x = nI 1 then q else nt 7 x.toInt.natAbs (if x < 0 then tw (tw q 61) 45 else tw q 61)
def et (q : Tx) (u v : Nat) (x : Int32) : Tx := etw (et5 q u v) x
theorem nt_2 {u : Nat} {q : Tx} (hu : u < 40) : (nt 7 u q).1 ≤ q.1 + 2 := nt_len 7 2 u q (by decide) (by show u < 100; omega)
theorem et5_len {q : Tx} {u v : Nat} (hu : u < 40) (hv : v < 40) : (et5 q u v).1 ≤ q.1 + 7 := by
  unfold et5
  have h1 := nt_2 (u := u) (q := tw (if q.1 = 0 then q else tw q 59) 43) hu
  have h2 := nt_2 (u := v) (q := tw (nt 7 u (tw (if q.1 = 0 then q else tw q 59) 43)) 44) hv
  have h3 : (tw (nt 7 u (tw (if q.1 = 0 then q else tw q 59) 43)) 44).1 = (nt 7 u (tw (if q.1 = 0 then q else tw q 59) 43)).1 + 1 := rfl
  have h4 : (tw (if q.1 = 0 then q else tw q 59) 43).1 = (if q.1 = 0 then q else tw q 59).1 + 1 := rfl
  have h5 : (if q.1 = 0 then q else tw q 59).1 ≤ q.1 + 1 := by
    split
    · omega
    · exact Nat.le_refl _
  omega
theorem wbd_abs {x : Int32} (h : wbd x) : x.toInt.natAbs < 10 ^ 7 := by
  have h1 := h.1
  have h2 := h.2
  show x.toInt.natAbs < 10000000
  omega
theorem etw_len {q : Tx} {x : Int32} (hx : wbd x) : (etw q x).1 ≤ q.1 + 9 := by
  unfold etw
  split
  · omega
  · have h1 := nt_len 7 7 x.toInt.natAbs (if x < 0 then tw (tw q 61) 45 else tw q 61) (by decide) (wbd_abs hx)
    have h2 : (if x < 0 then tw (tw q 61) 45 else tw q 61).1 ≤ q.1 + 2 := by
      split
      · exact Nat.le_refl _
      · exact Nat.le_succ _
    omega
theorem et_len {q : Tx} {u v : Nat} {x : Int32} (hu : u < 40) (hv : v < 40) (hx : wbd x) : (et q u v x).1 ≤ q.1 + 16 := by
  have h1 := et5_len (q := q) hu hv
  have h2 := etw_len (q := et5 q u v) hx
  unfold et
  omega
theorem abs_ge {x : Int32} (h : wbd x) (h0 : 0 ≤ x) : x = nI x.toInt.natAbs := by
  rw [Int32.le_iff_toInt_le] at h0
  have h0 : 0 ≤ x.toInt := h0
  exact zr_int (by omega)
theorem abs_lt {x : Int32} (h : wbd x) (h0 : ¬ 0 ≤ x) : -x = nI x.toInt.natAbs := by
  rw [Int32.le_iff_toInt_le] at h0
  have h0 : ¬ 0 ≤ x.toInt := h0
  have h1 := h.1
  refine zr_int ?_
  rw [Int32.toInt_neg]
  have : (-x.toInt).bmod (2 ^ 32) = -x.toInt := Int.bmod_eq_of_le (by omega) (by omega)
  rw [this]; omega
theorem abs_z {x : Int32} (h : wbd x) : zmabs x = nI x.toInt.natAbs := by
  unfold zmabs
  by_cases h0 : 0 ≤ x
  · rw [if_pos h0]; exact abs_ge h h0
  · rw [if_neg h0, Int32.zero_sub]; exact abs_lt h h0
def fe (f : Nat → Int64) (w : Nat → Int32) : Nat → Tx
  | 0 => (0, fun _ => 0)
  | e + 1 => if isE f e = true then et (fe f w e) (e / 40) (e % 40) (w e) else fe f w e
theorem fe_s (f : Nat → Int64) (w : Nat → Int32) (e : Nat) : fe f w (e + 1) = if isE f e = true then et (fe f w e) (e / 40) (e % 40) (w e) else fe f w e := rfl
theorem fe_len {f : Nat → Int64} {w : Nat → Int32} (hw : ∀ e, wbd (w e)) : ∀ e, e ≤ 1600 → (fe f w e).1 ≤ 16 * fb_ct (isE f) e
  | 0, _ => Nat.le_refl _
  | e + 1, he => by
    have ih := fe_len (f := f) hw e (by omega)
    rw [fb_ct_succ]
    rw [fe_s]
    by_cases z : isE f e = true
    · rw [if_pos z, if_pos z]
      have := et_len (q := fe f w e) (u := e / 40) (v := e % 40) (x := w e) (by omega) (by omega) (hw e)
      omega
    · rw [if_neg z, if_neg z]; omega
theorem fe_room {f : Nat → Int64} {w : Nat → Int32} (hw : ∀ e, wbd (w e)) {e : Nat} (he : e < 1600) (z : isE f e = true) : (fe f w e).1 + 16 ≤ 12480 := by
  have h1 := fe_len (f := f) hw e (by omega)
  have h2 : fb_ct (isE f) (e + 1) ≤ fb_ct (isE f) 1600 := fb_ct_mono _ (by omega)
  have h3 := ec_le f
  rw [fb_ct_succ, if_pos z] at h2
  omega
section SPELL
variable {d : Nat} {h : AH} {q : Tx} {s : NS}
theorem c_etw {h0 : AH} {x : Int32} {P : AH → Prop} (hw : zWF h) (hC : CP h q) (hx : wbd x) (hW : q.1 + 9 ≤ 12480) (hf : pcf h0 h) (hP : ∀ h', zWF h' → CP h' (etw q x) → pcf h0 h' → P h') : (x = (nI 1) → kV P none h) ∧ (¬ x = (nI 1) → zK (d + 3) m_X4_write [.ref 37, .int (nI 61)] h (kV fun h7 => (0 ≤ x → zK (d + 3) m_X4_writeNumber [.ref 37, .int (zmabs x)] h7 (kV fun h9 => kV P none h9)) ∧ (¬ 0 ≤ x → zK (d + 3) m_X4_write [.ref 37, .int (nI 45)] h7 (kV fun h10 => zK (d + 3) m_X4_writeNumber [.ref 37, .int (zmabs x)] h10 (kV fun h11 => kV P none h11))))) := by
  refine ⟨fun z => mk_kV hw (hP h hw (by rw [etw, if_pos z]; exact hC) hf), fun z => use_kV (c_write hw hC (by omega) (by decide)) (fun h7 hw7 ⟨a1, a2⟩ => ⟨fun y => ?_, fun y => ?_⟩)⟩
  · rw [abs_z hx]
    refine use_kV (c_writeNumber (m := 7) hw7 a1 (by decide) (by decide) (wbd_abs hx) (by show q.1 + 1 + 7 ≤ _; omega)) (fun h9 hw9 ⟨b1, b2⟩ => mk_kV hw9 (hP h9 hw9 ?_ (pcf_tr hf (pcf_tr a2 b2))))
    rw [etw, if_neg z, if_neg (Int32.not_lt.mpr y)]
    exact b1
  · rw [abs_z hx]
    refine use_kV (c_write hw7 a1 (by show q.1 + 1 < _; omega) (by decide)) (fun h10 hw10 ⟨b1, b2⟩ => use_kV (c_writeNumber (m := 7) hw10 b1 (by decide) (by decide) (wbd_abs hx) (by show q.1 + 1 + 1 + 7 ≤ _; omega)) (fun h11 hw11 ⟨c1, c2⟩ => mk_kV hw11 (hP h11 hw11 ?_ (pcf_tr hf (pcf_tr a2 (pcf_tr b2 c2))))))
    rw [etw, if_neg z, if_pos (Int32.not_le.mp y)]
    exact c1
theorem c_writeEdge {u v : Nat} {x : Int32} (hw : zWF h) (hC : CP h q) (hu : u < 40) (hv : v < 40) (hx : wbd x) (hW : q.1 + 16 ≤ 12480) : zK (d + 4) m_X4_writeEdge [.ref 37, .int (nI u), .int (nI v), .int x] h (kV (fun h' => CP h' (et q u v x) ∧ pcf h h')) := by
  have h1 : h.I 37 1 = nI q.1 := by
    obtain ⟨pb, e, _, _, _, _, h1, _⟩ := hC
    exact h1
  have body : ∀ (q1 : Tx) (g : AH), zWF g → CP g q1 → q1 = (if q.1 = 0 then q else tw q 59) → pcf h g → zK (d + 3) m_X4_write [.ref 37, .int (nI 43)] g (kV fun h2 => zK (d + 3) m_X4_writeNumber [.ref 37, .int (nI u)] h2 (kV fun h3 => zK (d + 3) m_X4_write [.ref 37, .int (nI 44)] h3 (kV fun h4 => zK (d + 3) m_X4_writeNumber [.ref 37, .int (nI v)] h4 (kV fun h5 => (x = (nI 1) → kV (fun h' => CP h' (et q u v x) ∧ pcf h h') none h5) ∧ (¬ x = (nI 1) → zK (d + 3) m_X4_write [.ref 37, .int (nI 61)] h5 (kV fun h7 => (0 ≤ x → zK (d + 3) m_X4_writeNumber [.ref 37, .int (zmabs x)] h7 (kV fun h9 => kV (fun h' => CP h' (et q u v x) ∧ pcf h h') none h9)) ∧ (¬ 0 ≤ x → zK (d + 3) m_X4_write [.ref 37, .int (nI 45)] h7 (kV fun h10 => zK (d + 3) m_X4_writeNumber [.ref 37, .int (zmabs x)] h10 (kV fun h11 => kV (fun h' => CP h' (et q u v x) ∧ pcf h h') none h11))))))))) := by
    intro q1 g hg c1 eq1 f1
    have hq1 : q1.1 ≤ q.1 + 1 := by
      rw [eq1]
      split
      · omega
      · exact Nat.le_refl _
    have n1 := nt_2 (u := u) (q := tw q1 43) hu
    have n2 := nt_2 (u := v) (q := tw (nt 7 u (tw q1 43)) 44) hv
    have n3 : (tw q1 43).1 = q1.1 + 1 := rfl
    have n4 : (tw (nt 7 u (tw q1 43)) 44).1 = (nt 7 u (tw q1 43)).1 + 1 := rfl
    refine use_kV (c_write hg c1 (by omega) (by decide)) (fun h2 hw2 ⟨a1, a2⟩ => use_kV (c_writeNumber (m := 2) hw2 a1 (by decide) (by decide) (by show u < 100; omega) (by omega)) (fun h3 hw3 ⟨b1, b2⟩ => use_kV (c_write hw3 b1 (by omega) (by decide)) (fun h4 hw4 ⟨d1, d2⟩ => use_kV (c_writeNumber (m := 2) hw4 d1 (by decide) (by decide) (by show v < 100; omega) (by omega)) (fun h5 hw5 ⟨e1, e2⟩ => ?_))))
    refine c_etw hw5 e1 hx (by omega) (pcf_tr f1 (pcf_tr a2 (pcf_tr b2 (pcf_tr d2 e2)))) (fun h' _ g1 g2 => ⟨?_, g2⟩)
    subst eq1
    exact g1
  refine r_X4_writeEdge_0 _ _ _ hw ?_
  rw [h1, nI_le0 (by omega)]
  refine ⟨fun z => body q h hw hC (if_pos z).symm pcf_rf, fun z => use_kV (c_write hw hC (by omega) (by decide)) (fun h12 hw12 ⟨a1, a2⟩ => body _ h12 hw12 a1 (if_neg z).symm a2)⟩
theorem CN_pcf {h' : AH} (a : pcf h h') (hC : CN h s) : CN h' s := by
  unfold CN at *
  rw [a.2.2.2.1 2 (by decide) (by decide) (by decide), a.2.2.2.1 4 (by decide) (by decide) (by decide), a.2.2.2.2 2 (by decide), a.2.2.2.2 3 (by decide)]
  exact hC
theorem c_spell (hw : zWF h) (hC : CN h s) (hG : GS s) (hT : ∃ q, CP h q) : zK (d + 5) m_X10_spell [.ref 1] h (kI (fun x h' => x = nI (fe s.f s.w 1600).1 ∧ CP h' (fe s.f s.w 1600) ∧ pcf h h')) := by
  refine r_X10_spell_0 hw (fun h1 q1 => ?_)
  have hw1 : zWF h1 := wf_I q1 hw
  have c1 : CP h1 (fe s.f s.w 0) := by
    obtain ⟨q, pb, e, hz, he, hpb, hn, _, _, _, hB, hN, hU⟩ := hT
    have e1 : h1.I pb = h.I pb := by rw [q1]; exact va_up_ne _ _ (by omega)
    refine ⟨pb, e, by rw [q1]; exact hz, he, hpb, by rw [q1]; exact hn, by rw [q1]; rfl, Nat.zero_le _, fun i hi => absurd hi (Nat.not_lt_zero i), fun i hi => by rw [e1]; exact hB i hi, by rw [q1]; exact hN, by rw [q1]; exact hU⟩
  have f1 : pcf h h1 := by
    refine ⟨by rw [q1]; exact Nat.le_refl _, fun k _ => by rw [q1]; rfl, fun a _ _ => by rw [q1]; rfl, fun k hk k1 k2 => ?_, fun k _ => by rw [q1]; rfl⟩
    rw [q1]; exact va_up_ne _ _ k1
  have A : ∀ u, u ≤ 40 → ∀ g, zWF g → CP g (fe s.f s.w (40 * u)) → pcf h g → zQ none m_X10_spell (d + 4 + 1) 10 [(0, .ref 1), (1, .int (nI u))] [] g (kI (fun x h' => x = nI (fe s.f s.w 1600).1 ∧ CP h' (fe s.f s.w 1600) ∧ pcf h h')) := by
    refine nat_down ?_ (fun u hu ih => ?_)
    · intro g hg c f
      refine r_X10_spell_10 _ hg ⟨fun _ => mk_kI hg ⟨?_, c, f⟩, fun z => absurd e40 z⟩
      obtain ⟨pb, e, _, _, _, _, h1, _⟩ := c
      exact h1
    · intro g hg c f
      refine r_X10_spell_10 _ hg ⟨fun z => absurd z (n40 hu), fun _ => ?_⟩
      rw [nI_add]
      have skip : ∀ k, k ≤ u + 1 → fe s.f s.w (40 * u + k) = fe s.f s.w (40 * u) := by
        intro k
        induction k with
        | zero => intro _; rfl
        | succ k ih2 =>
          intro hk
          rw [← ih2 (by omega)]
          rw [← Nat.add_assoc, fe_s, if_neg]
          unfold isE
          rw [decide_eq_false (show ¬ (40 * u + k) / 40 < (40 * u + k) % 40 by omega), Bool.false_and]
          decide
      have B : ∀ v, v ≤ 40 → u < v → ∀ g, zWF g → CP g (fe s.f s.w (40 * u + v)) → pcf h g → zQ none m_X10_spell (d + 4 + 1) 20 [(0, .ref 1), (1, .int (nI u)), (2, .int (nI v))] [] g (kI (fun x h' => x = nI (fe s.f s.w 1600).1 ∧ CP h' (fe s.f s.w 1600) ∧ pcf h h')) := by
        refine nat_down ?_ (fun v hv ih2 => ?_)
        · intro _ g hg c f
          refine r_X10_spell_20 _ _ hg ⟨fun _ => ?_, fun z => absurd e40 z⟩
          rw [nI_add]
          exact ih g hg (by rw [show 40 * (u + 1) = 40 * u + 40 by omega]; exact c) f
        · intro huv g hg c f
          have cn := CN_pcf f hC
          have ee : isE s.f (40 * u + v) = gb (s.f u) v := by
            unfold isE
            rw [show (40 * u + v) / 40 = u by omega, show (40 * u + v) % 40 = v by omega, decide_eq_true huv, Bool.true_and]
          refine r_X10_spell_20 _ _ hg ⟨fun z => absurd z (n40 hv), fun _ => use_pI (c_joins hg hu hv) ?_⟩
          rw [cn.1, nI_add]
          refine ⟨fun z => ih2 (by omega) g hg ?_ f, fun z => use_pI (c_pairOf hu hv) ⟨vp_in_nI (pr_lt hu hv) (by decide), ?_⟩⟩
          · rw [← Nat.add_assoc, fe_s, if_neg (by rw [ee, bFb z]; decide)]; exact c
          · have zt := bTb z
            have epr : pr u v = 40 * u + v := by unfold pr; omega
            rw [cl_n (pr_lt hu hv) (by decide), cn.2.1 u v hu hv zt, epr]
            have room := fe_room (f := s.f) (w := s.w) hG.2.2.2.2 (e := 40 * u + v) (by omega) (by rw [ee]; exact zt)
            refine use_kV (c_writeEdge hg c hu hv (hG.2.2.2.2 _) room) (fun g' hg' ⟨a1, a2⟩ => ih2 (by omega) g' hg' ?_ (pcf_tr f a2))
            rw [← Nat.add_assoc, fe_s, if_pos (by rw [ee]; exact zt), show (40 * u + v) / 40 = u by omega, show (40 * u + v) % 40 = v by omega]
            exact a1
      exact B (u + 1) (by omega) (by omega) g hg (by rw [skip (u + 1) (Nat.le_refl _)]; exact c) f
  exact A 0 (Nat.zero_le _) h1 hw1 c1 f1
end SPELL
