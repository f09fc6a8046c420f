section BATCH2
variable {d : Nat} {len : Nat} {T : Nat → Nat}
theorem m_parse {Q : Option Value → AH → Prop} : ∀ n m, n + m = 54 → ∀ (h0 h : AH) (p : Nat), (∀ i, i < len → T i ≤ 127) → zWF h → MT h len T p none → 3 * m ≤ p → rfr (4 * m) h0 h → (∀ h' M, zWF h' → h'.I 53 21 = fi (btc len T n p).1 → (∀ f, (btc len T n p).1 = some f → f ≤ 160) → ((btc len T n p).1 = none → M = m + (btc len T n p).2.length ∧ mslots h' m (btc len T n p).2) → rfr (4 * m) h0 h' → zQ none m_X11_batch (d + 6) 8 [(0, .ref 53), (1, .int (nI M)), (2, .int (nI 0))] [] h' Q) → zQ none m_X11_batch (d + 6) 8 [(0, .ref 53), (1, .int (nI m)), (2, .int (nI 1))] [] h Q := by
  intro n
  induction n with
  | zero =>
    intro m hm h0 h p hT hw hC h3 f0 K
    have a1 := hC.2.2.2.2.1
    have a2 := hC.2.1
    omega
  | succ n ih =>
    intro m hm h0 h p hT hw hC h3 f0 K
    have hlen := hC.2.1
    have hp := hC.2.2.2.2.1
    refine r_X11_batch_8 _ _ hw ⟨fun z => absurd z i1_ne0, fun _ => ?_⟩
    rw [nI_mulE, nI_add]
    refine use_kI (m_isPart (by omega) hT hw hC) (fun x h5 hw5 ⟨a1, a2, a3, a4⟩ => ?_)
    subst a1
    have f5 := rfr_tr f0 a4
    have hg : gd len (sPart len T (p, none)).1 := sPart_gd
    cases e : (sPart len T (p, none)).1.2 with
    | some f =>
      obtain ⟨p', cm⟩ := a2.2 f e
      have hf : f ≤ 160 := cm.2.2.2.2.2.2 f rfl
      rw [btc_f e] at K
      exact ⟨fun _ => ⟨fun _ => K h5 (m + 1) hw5 cm.2.2.2.2.2.1 (fun f' q => by cases q; exact hf) (fun q => by cases q) f5, fun z => absurd rfl z⟩, fun z => absurd rfl z⟩
    | none =>
      obtain ⟨n1, n2, n3⟩ := sPart_no hlen e
      have cm := a2.1 e
      have sl := a3 e
      refine ⟨fun z => absurd z (by decide), fun _ => ?_⟩
      rw [cm.1, cm.2.2.2.1, ne_eq, nI_eqE (by omega) (by omega)]
      refine ⟨fun y => ⟨fun z => absurd z (by decide), fun _ => use_kI (m_isSign (by decide) hw5 cm) (fun x14 h13 hw13 ⟨b1, b2, b3, b4⟩ => ?_)⟩, fun y => ?_⟩
      · subst b1
        have f13 : rfr (4 * m + 4) h5 h13 := rfr_n ⟨b3, fun j j1 j2 _ => b4 j j1 j2⟩
        have e67 : h13.I 67 = h5.I 67 := frm_I b3 (by decide)
        have sl13 : mslot h13 (4 * m) (sPart len T (p, none)).2 := by unfold mslot; rw [e67]; exact sl
        cases t : tk len T (sPart len T (p, none)).1.1 59 with
        | true =>
          rw [t, if_pos rfl, if_pos rfl] at b2
          rw [btc_n e t] at K
          refine ih (m + 1) (by omega) h13 h13 ((sPart len T (p, none)).1.1 + 1) hT hw13 b2 (by omega) rfr_rf (fun h' M hw' k1 k2 k3 k4 => K h' M hw' k1 k2 (fun q => ?_) (rfr_tr f5 (rfr_tr ⟨f13.1, f13.2.1, fun j hj => f13.2.2 j (by omega)⟩ ⟨k4.1, k4.2.1, fun j hj => k4.2.2 j (by omega)⟩)))
          obtain ⟨g1, g2⟩ := k3 q
          refine ⟨by rw [g1, List.length_cons]; omega, ?_, g2⟩
          unfold mslot
          rw [k4.2.2 (4 * m) (by omega), k4.2.2 (4 * m + 1) (by omega), k4.2.2 (4 * m + 2) (by omega), k4.2.2 (4 * m + 3) (by omega)]
          exact sl13
        | false =>
          rw [t, if_neg (by decide), if_neg (by decide)] at b2
          rw [btc_e e t, if_pos (by omega)] at K
          exact K h13 (m + 1) hw13 b2.2.2.2.2.2.1 (fun f' q => by cases q; omega) (fun q => by cases q) (rfr_tr f5 ⟨f13.1, f13.2.1, fun j hj => f13.2.2 j (by omega)⟩)
      · have t : tk len T (sPart len T (p, none)).1.1 59 = false := by rw [y]; exact tk_end (by decide)
        rw [btc_e e t, if_neg (by omega)] at K
        exact K h5 (m + 1) hw5 cm.2.2.2.2.2.1 (fun f' q => by cases q) (fun _ => ⟨rfl, sl, trivial⟩) f5
theorem c_doAll {B : Int64} : ∀ (l : List PT) i c (z : NT) (h : AH), i + l.length ≤ 54 → (∀ t ∈ l, pok t) → slots h i l → zWF h → cZ h z → nu c z → h.I 25 4 = nI (i + l.length) → zQ none m_X10_batch (d + 7) 50 [(0, .ref 1), (1, .long B), (3, .int (nI i))] [] h (kI (fun x h' => x = (h'.L 2 9 - B).toInt32 ∧ cZ h' (dAll l z) ∧ cfr h h'))
  | [], i, c, z, h, hl, hp, hs, hw, q, qn, hc => by
    refine r_X10_batch_50 _ _ hw ?_
    rw [hc, nI_leE (by omega) (by omega)]
    exact ⟨fun _ => mk_kI hw ⟨rfl, q, cfr_rf⟩, fun y => absurd (Nat.le_refl _) y⟩
  | t :: ts, i, c, z, h, hl, hp, hs, hw, q, qn, hc => by
    have ht := hp t List.mem_cons_self
    rw [List.length_cons] at hl hc
    refine r_X10_batch_50 _ _ hw ?_
    rw [hc, nI_leE (by omega) (by omega), nI_add]
    refine ⟨fun y => absurd y (by omega), fun _ => use_kV (c_doPart (by omega) ht hs.1 hw q qn) (fun h2 hw2 ⟨a1, a2⟩ => ?_)⟩
    refine zq_mono (c_doAll ts (i + 1) (c + 40) (dPart t z) h2 (by omega) (fun t' q' => hp t' (List.mem_cons_of_mem _ q')) (slots_eq (frm_I a2.1 (by decide)) (frm_I a2.1 (by decide)) (frm_I a2.1 (by decide)) (frm_I a2.1 (by decide)) ts (i + 1) hs.2) hw2 a1 (nu_part ht qn) ?_) (fun r h' ⟨r0, r1, r2, r3, r4, r5⟩ => ⟨r0, r1, r2, r3, r4, cfr_tr a2 r5⟩)
    rw [frm_I a2.1 (by decide), hc]
    congr 1; omega
theorem m_doAll {B : Int32} {M : Nat} : ∀ (l : List PT) i c (z : NT) (h : AH), i + l.length = M → M ≤ 54 → (∀ t ∈ l, pok t) → mslots h i l → zWF h → mZ h z → nu c z → zQ none m_X11_batch (d + 7) 87 [(0, .ref 53), (1, .int (nI M)), (3, .int B), (4, .int (nI i))] [] h (kI (fun x h' => x = h'.I 54 4 - B ∧ mZ h' (dAll l z) ∧ ofr h h'))
  | [], i, c, z, h, hl, hM, hp, hs, hw, q, qn => by
    have hl : i = M := hl
    refine r_X11_batch_87 _ _ _ hw ?_
    rw [nI_leE (by omega) (by omega), cl_n (show 4 < 187 by decide) (by decide)]
    exact ⟨fun _ => ⟨vp_in_nI (by decide) (by decide), mk_kI hw ⟨rfl, q, ofr_rf⟩⟩, fun y => absurd (by omega) y⟩
  | t :: ts, i, c, z, h, hl, hM, hp, hs, hw, q, qn => by
    have ht := hp t List.mem_cons_self
    rw [List.length_cons] at hl
    refine r_X11_batch_87 _ _ _ hw ?_
    rw [nI_leE (by omega) (by omega), nI_add, nI_mulE]
    refine ⟨fun y => absurd y (by omega), fun _ => use_kV (m_does (by omega) ht hs.1 hw q qn) (fun h2 hw2 ⟨a1, a2⟩ => ?_)⟩
    exact zq_mono (m_doAll ts (i + 1) (c + 40) (dPart t z) h2 (by omega) hM (fun t' q' => hp t' (List.mem_cons_of_mem _ q')) (mslots_eq (frm_I a2.1 (by decide)) ts (i + 1) hs.2) hw2 a1 (nu_part ht qn)) (fun r h' ⟨r0, r1, r2, r3, r4, r5⟩ => ⟨r0, r1, r2, r3, r4, ofr_tr a2 r5⟩)
end BATCH2
