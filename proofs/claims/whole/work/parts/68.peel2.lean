/-! the reference's peeling -/
def mpf (h h' : AH) : Prop := frm [53, 62, 63, 64] [61] h h' ∧ ∀ j, j ≠ 16 → h'.I 53 j = h.I 53 j
theorem mpf_rf {h : AH} : mpf h h := ⟨frm_rf, fun _ _ => rfl⟩
theorem mpf_tr {h h1 h2 : AH} (a : mpf h h1) (b : mpf h1 h2) : mpf h h2 := ⟨frm_tr a.1 b.1, fun j q => (b.2 j q).trans (a.2 j q)⟩
theorem mpf_f {SI SL : List Nat} {h h1 : AH} (a : frm SI SL h h1) (hs : ∀ k ∈ SI, k ∈ [62, 63, 64]) (hl : ∀ k ∈ SL, k ∈ [61]) : mpf h h1 := by
  refine ⟨frm_up a (fun k hk => List.mem_cons_of_mem _ (hs k hk)) hl, fun j _ => ?_⟩
  rw [frm_I a (fun q => absurd (hs _ q) (by decide))]
theorem mpf_s {h h1 : AH} {x : Int32} (e : h1 = h.sI 53 16 x) : mpf h h1 := ⟨frm_wI e (by decide), fun j hj => by rw [e, AH.sI_I, va_up_ne _ _ hj]⟩
theorem v1600 {i : Nat} (h : i < 1600) : vp_in (nI i) 1600 := vp_in_nI h (by decide)
theorem PF_0 (f : Nat → Int64) (A B C : Nat → Int32) : PF f 0 A B C := fun s hs => absurd hs (Nat.not_lt_zero _)
theorem PF_s {f : Nat → Int64} {t : Nat} {A B C A' B' C' : Nat → Int32} {x : Int32} (hf : GF f) (ht : t < ecn f) (h : PF f t A B C) (hA : A' = va_up A (plE f t) (nI (plM f (t + 1) + 2))) (hB : B' = va_up B (plE f t) (nI t)) (hC : C' = va_up C t x) (hx : x = nI (plE f t)) : PF f (t + 1) A' B' C' := by
  intro s hs
  subst hA hB hC hx
  by_cases e : s = t
  · subst e
    rw [va_up_self, va_up_self, va_up_self]
    exact ⟨rfl, rfl, rfl⟩
  · have hst : s < t := by omega
    have hne := plE_ne hf hst ht
    rw [va_up_ne _ _ (fun q => hne q.symm), va_up_ne _ _ (fun q => hne q.symm), va_up_ne _ _ e]
    exact h s hst
section PEELM
variable {d : Nat} {f : Nat → Int64}
theorem m_peelLoop (hf : GF f) : ∀ n t, n + t = ecn f → ∀ (h : AH), zWF h → (∀ k, k < 40 → h.L 61 k = plG f t k) → h.I 53 16 = nI t → h.I 54 5 = nI (ecn f) → PF f t (h.I 62) (h.I 63) (h.I 64) → zQ none m_X11_peels (d + 4) 11 [(0, .ref 53), (1, .int (nI (plM f t)))] [] h (kV (fun h' => PF f (ecn f) (h'.I 62) (h'.I 63) (h'.I 64) ∧ mpf h h')) := by
  intro n
  have hm := ecn_le f
  induction n with
  | zero =>
    intro t ht h hw hg h16 h5 hP
    rw [Nat.zero_add] at ht
    refine r_X11_peels_11 _ hw ⟨vp_in_nI (by decide) (by decide), ?_⟩
    rw [cl_n (show 5 < 187 by decide) (by decide), h5, h16, ht]
    rw [ht] at hP
    exact ⟨fun _ => mk_kV hw ⟨hP, mpf_rf⟩, fun z => absurd ((nI_leE (by omega) (by omega)).mpr (Nat.le_refl _)) z⟩
  | succ n ih =>
    intro t ht h hw hg h16 h5 hP
    have htl : t < ecn f := by omega
    obtain ⟨hb, hE, _⟩ := plE_ok hf htl
    have hls := plE_ls hf htl
    have hfg := (pl_inv hf t (by omega)).1
    obtain ⟨hlt, hgb⟩ := isE_b hE
    have hM := plM_le f t
    have hM1 := plM_le f (t + 1)
    have hS := sup_le (plG f t) (plE f t)
    refine r_X11_peels_11 _ hw ⟨vp_in_nI (by decide) (by decide), ?_⟩
    rw [cl_n (show 5 < 187 by decide) (by decide), h5, h16]
    refine ⟨fun z => absurd ((nI_leE (by omega) (by omega)).mp z) (by omega), fun _ => ?_⟩
    -- one turn, once the edge is found
    have go : ∀ (x : Nat), x = plM f (t + 1) → ∀ h5' h7 h9, h5' = h.sI 62 (nI (plE f t)).toNatClampNeg (nI x + nI 2) → h7 = h5'.sI 63 (nI (plE f t)).toNatClampNeg (h5'.I 53 16) → h9 = h7.sI 64 (h7.I 53 16).toNatClampNeg (nI (plE f t)) → zK (d + 3) m_X11_leaves_ [.ref 53, .int (nI (plE f t) / nI 40), .int (nI (plE f t) - nI (plE f t) / nI 40 * nI 40)] h9 (kV fun h10 => ∀ h11, h11 = h10.sI 53 16 (h10.I 53 16 + nI 1) → zQ none m_X11_peels (d + 3 + 1) 11 [(0, .ref 53), (1, .int (nI x))] [] h11 (kV (fun h' => PF f (ecn f) (h'.I 62) (h'.I 63) (h'.I 64) ∧ mpf h h'))) := by
      intro x hx h5' h7 h9 q5 q7 q9
      have hw9 := wf_I q9 (wf_I q7 (wf_I q5 hw))
      have e16 : h5'.I 53 16 = nI t := by rw [q5]; exact h16
      have e16' : h7.I 53 16 = nI t := by rw [q7]; exact e16
      rw [cl_n hb (by decide), nI_add] at q5
      rw [cl_n hb (by decide), e16] at q7
      rw [e16', cl_n (show t < 780 by omega) (by decide)] at q9
      have f9 : mpf h h9 := mpf_tr (mpf_f (frm_wI (SI := [62]) (SL := []) q5 (by decide)) (by decide) (by decide)) (mpf_tr (mpf_f (frm_wI (SI := [63]) (SL := []) q7 (by decide)) (by decide) (by decide)) (mpf_f (frm_wI (SI := [64]) (SL := []) q9 (by decide)) (by decide) (by decide)))
      have P9 : PF f (t + 1) (h9.I 62) (h9.I 63) (h9.I 64) := by
        refine PF_s (x := nI (plE f t)) hf htl hP ?_ ?_ ?_ rfl
        · rw [sI_r q9 (by decide), sI_r q7 (by decide), q5, AH.sI_I, hx]
        · rw [sI_r q9 (by decide), q7, AH.sI_I, sI_r q5 (by decide)]
        · rw [q9, AH.sI_I, sI_r q7 (by decide), sI_r q5 (by decide)]
      have l9 : ∀ k, k < 40 → h9.L 61 k = plG f t k := fun k hk => by rw [q9, q7, q5]; exact hg k hk
      rw [nI_remE (by omega) (by decide) (by decide), nI_divE (by omega) (by decide) (by decide)]
      refine use_kV (m_leaves_ hw9 l9 hfg (by omega) (by omega) (by omega) hgb) (fun h10 hw10 ⟨a1, a2⟩ h11 q11 => ?_)
      have x16 : h10.I 53 16 = nI t := by rw [frm_I a2 (by decide), sI_r q9 (by decide)]; exact e16'
      rw [x16, nI_add] at q11
      have f11 : mpf h h11 := mpf_tr f9 (mpf_tr (mpf_f a2 (by decide) (by decide)) (mpf_s q11))
      rw [hx]
      refine zq_mono (ih (t + 1) (by omega) h11 (wf_I q11 hw10) (fun k hk => ?_) (sI_e q11) ?_ ?_) (fun r h' ⟨r1, r2, r3, r4⟩ => ⟨r1, r2, r3, mpf_tr f11 r4⟩)
      · rw [plG_s, q11]; exact a1 k hk
      · rw [sI_r q11 (by decide), frm_I a2 (by decide), sI_r q9 (by decide), sI_r q7 (by decide), sI_r q5 (by decide)]; exact h5
      · rw [sI_r q11 (by decide), sI_r q11 (by decide), sI_r q11 (by decide), frm_I a2 (by decide), frm_I a2 (by decide), frm_I a2 (by decide)]
        exact P9
    have key : ∀ e, e ≤ 1600 → zQ none m_X11_peels (d + 3 + 1) 28 [(0, .ref 53), (1, .int (nI (plM f t))), (2, .int (oi (ls (plG f t) e))), (3, .int (nI e))] [] h (kV (fun h' => PF f (ecn f) (h'.I 62) (h'.I 63) (h'.I 64) ∧ mpf h h')) := by
      refine nat_down ?_ (fun e he ihe => ?_)
      · rw [hls]
        refine r_X11_peels_28 _ _ _ hw ⟨fun _ => use_pI (m_supportLeft hw hg hb) ?_, fun z => absurd ((nI_leE (by decide) (by decide)).mpr (Nat.le_refl _)) z⟩
        have v16 : ∀ g : AH, g.I 53 16 = nI t → vp_in (g.I 53 16) 1600 := fun g e => by rw [e]; exact v1600 (by omega)
        rw [nI_leE (by omega) (by omega)]
        refine ⟨fun z => ⟨v1600 hb, fun h5' q5 => ⟨v1600 hb, fun h7 q7 => ⟨v16 h7 (by rw [q7, q5]; exact h16), fun h9 q9 => ?_⟩⟩⟩, fun z => use_pI (m_supportLeft hw hg hb) ⟨v1600 hb, fun h5' q5 => ⟨v1600 hb, fun h7 q7 => ⟨v16 h7 (by rw [q7, q5]; exact h16), fun h9 q9 => ?_⟩⟩⟩⟩
        · exact go (plM f t) (by rw [plM_s]; omega) h5' h7 h9 q5 q7 q9
        · exact go (sup (plG f t) (plE f t)) (by rw [plM_s]; omega) h5' h7 h9 q5 q7 q9
      · have hs := sup_le (plG f t) e
        rw [ls_s] at ihe
        refine r_X11_peels_28 _ _ _ hw ⟨fun z => absurd ((nI_leE (by decide) (by omega)).mp z) (by omega), fun _ => use_pI (m_isLeft hw hg he) ?_⟩
        rw [nI_add]
        refine ⟨fun z => ?_, fun z => ?_⟩
        · rw [if_neg (fun y => by rw [bFb z] at y; exact absurd y.1 (by decide))] at ihe
          exact ihe
        · have zt := bTb z
          cases ho : ls (plG f t) e with
          | none =>
            rw [ho, if_pos ⟨zt, rfl⟩] at ihe
            exact ⟨fun _ => ihe, fun y => absurd (by decide) y⟩
          | some b =>
            rw [ho] at ihe
            have hb2 := (ls_some ho).1
            have hsb := sup_le (plG f t) b
            refine ⟨fun y => absurd y (nI_lt0 (by omega)), fun _ => use_pI (m_supportLeft hw hg he) (use_pI (m_supportLeft hw hg (by omega)) ?_)⟩
            rw [nI_leE (by omega) (by omega)]
            refine ⟨fun y => ?_, fun y => ?_⟩
            · rw [if_neg (fun k => by have : sup (plG f t) e < sup (plG f t) b := of_decide_eq_true k.2; omega)] at ihe
              exact ihe
            · rw [if_pos ⟨zt, decide_eq_true (by omega)⟩] at ihe
              exact ihe
    exact key 0 (Nat.zero_le _)
theorem m_peels {h : AH} (hf : GF f) (hw : zWF h) (e58 : h.L 58 = f) (e5 : h.I 54 5 = nI (ecn f)) : zK (d + 5) m_X11_peels [.ref 53] h (kV (fun h' => PF f (ecn f) (h'.I 62) (h'.I 63) (h'.I 64) ∧ mpf h h')) := by
  refine r_X11_peels_0 hw (use_kV (m_leaves hw) (fun h1 hw1 ⟨a1, a2⟩ h2 q2 => ?_))
  refine zq_mono (m_peelLoop (d := d + 1) hf (ecn f) 0 (Nat.add_zero _) h2 (wf_I q2 hw1) (fun k hk => ?_) (sI_e q2) ?_ (PF_0 _ _ _ _)) (fun r h' ⟨r1, r2, r3, r4⟩ => ⟨r1, r2, r3, mpf_tr (mpf_f a2 (by decide) (by decide)) (mpf_tr (mpf_s q2) r4)⟩)
  · rw [q2]
    show h1.L 61 k = f k
    rw [a1 k hk, e58]
  · rw [sI_r q2 (by decide), frm_I a2 (by decide)]; exact e5
end PEELM
