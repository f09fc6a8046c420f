section FEWEST3
variable {d : Nat}
theorem m_leavesX {h : AH} {u v : Nat} (hw : zWF h) (hu : u < 40) (hv : v < 40) (huv : u ≠ v) (h1 : gb (h.L 61 u) v = true) (h2 : gb (h.L 61 v) u = true) : zK (d + 1) m_X11_leaves_ [.ref 53, .int (nI u), .int (nI v)] h (kV (fun h' => h' = h.wL 61 (flip (h.L 61) u v))) := by
  refine r_X11_leaves__0 _ _ hw ⟨vi40 hu, vi40 hu, fun h3 q3 => ⟨vi40 hv, vi40 hv, fun h6 q6 => ?_⟩⟩
  rw [cl40 hu] at q3
  change h3 = h.sL 61 u (h.L 61 u &&& (one v ^^^ (-1))) at q3
  rw [andn_xor (by omega) h1] at q3
  have q3 : h3 = h.wL 61 (va_up (h.L 61) u (h.L 61 u ^^^ one v)) := q3
  have x3 : h3.L 61 = va_up (h.L 61) u (h.L 61 u ^^^ one v) := by rw [q3, AH.wL_L]
  rw [cl40 hv, x3, va_up_ne _ _ (fun q => huv q.symm)] at q6
  change h6 = h3.sL 61 v (h.L 61 v &&& (one u ^^^ (-1))) at q6
  rw [andn_xor (by omega) h2] at q6
  refine mk_kV (wf_L q6 (wf_L q3 hw)) ?_
  rw [q6, q3, wL_sL]
  rfl
theorem m_isEnough : ∀ k, k ≤ 4 → ∀ {h : AH} {g : Nat → Int64}, zWF h → GF g → (∀ k, k < 40 → h.L 61 k = g k) → zK (d + 2 * k + 4) m_X11_isEnough [.ref 53, .int (nI k)] h (pI h (fun x => x = bI (en k g))) := by
  intro k
  induction k with
  | zero =>
    intro _ h g hw hf hg
    refine r_X11_isEnough_0 _ hw ?_
    have A : ∀ u, u ≤ 40 → fF g (1600 - 40 * u) (40 * u) = fF g 1600 0 → zQ none m_X11_isEnough (d + 2 * 0 + 3 + 1) 2 [(0, .ref 53), (1, .int (nI 0)), (2, .int (nI u))] [] h (pI h (fun x => x = bI (en 0 g))) := by
      refine nat_down ?_ (fun u hu ih => ?_)
      · intro hR
        refine r_X11_isEnough_2 _ _ hw ⟨fun _ => mk_pI ?_, fun z => absurd e40 z⟩
        have : fF g 1600 0 = none := by rw [← hR]; rfl
        rw [en, this]; rfl
      · intro hR
        refine r_X11_isEnough_2 _ _ hw ⟨fun z => absurd z (n40 hu), fun _ => ?_⟩
        rw [nI_add]
        have B : ∀ v, v ≤ 40 → u < v → fF g (1600 - (40 * u + v)) (40 * u + v) = fF g 1600 0 → zQ none m_X11_isEnough (d + 2 * 0 + 3 + 1) 12 [(0, .ref 53), (1, .int (nI 0)), (2, .int (nI u)), (3, .int (nI v))] [] h (pI h (fun x => x = bI (en 0 g))) := by
          refine nat_down ?_ (fun v hv ih2 => ?_)
          · intro _ hR
            refine r_X11_isEnough_12 _ _ _ hw ⟨fun _ => ?_, fun z => absurd e40 z⟩
            rw [nI_add]
            exact ih hR
          · intro huv hR
            obtain ⟨ee, ec⟩ := isE_uv (g := g) hv huv
            have next : ¬ (isE g (40 * u + v) = true ∧ cm g (40 * u + v) ≠ 0) → _ := fun z => ih2 (by omega) (by rw [← hR, fF_step (by omega) z]; rfl)
            refine r_X11_isEnough_12 _ _ _ hw ⟨fun z => absurd z (n40 hv), fun _ => ⟨vi40 hu, ?_⟩⟩
            rw [cl40 hu, hg u hu, cl40 hv, hg v hv, nI_add]
            refine use_pI (c_has (by omega)) ⟨fun z => next ?_, fun z => ⟨vi40 hu, vi40 hv, ?_⟩⟩
            · rw [ee, show gb (g u) v = false from bF z]
              exact fun q => absurd q.1 (by decide)
            · have zt : gb (g u) v = true := bT z
              rw [← ec]
              refine ⟨fun y => ⟨fun w => absurd nI_0 w, fun _ => mk_pI ?_⟩, fun y => next (fun q => q.2 ((lg_cmp0 _ _).mp y))⟩
              have hR2 : fF g 1600 0 = some (40 * u + v) := by rw [← hR]; exact fF_hit (by omega) ⟨by rw [ee]; exact zt, fun q => y ((lg_cmp0 _ _).mpr q)⟩
              rw [en, hR2]; rfl
        exact B (u + 1) (by omega) (by omega) (by rw [← hR]; exact (fF_skip hu (u + 1) (Nat.le_refl _)).symm)
    exact A 0 (Nat.zero_le _) rfl
  | succ k ih =>
    intro hk h g hw hf hg
    refine r_X11_isEnough_0 _ hw ?_
    have sub : ∀ {u v : Nat}, u < 40 → v < 40 → u ≠ v → gb (g u) v = true → zK (d + 2 * (k + 1) + 3) m_X11_isEnoughWithout [.ref 53, .int (nI u), .int (nI v), .int (nI k)] h (pI h (fun x => x = bI (en k (flip g u v)))) := by
      intro u v hu hv huv hz
      have f1 : gb (h.L 61 u) v = true := by rw [hg u hu]; exact hz
      have f2 : gb (h.L 61 v) u = true := by rw [hg v hv, hf.1]; exact hz
      refine r_X11_isEnoughWithout_0 _ _ _ hw (use_kV (m_leavesX hw hu hv huv f1 f2) (fun h1 hw1 e1 => ?_))
      have ih' := ih (by omega) hw1 (GF_flip hf huv hu hv) (fun j hj => by rw [e1, AH.wL_L]; exact flip_cong hu hv hg j hj)
      rw [show d + 2 * k + 4 = d + 2 * (k + 1) + 2 by omega] at ih'
      refine use_pI ih' ⟨vi40 hu, vi40 hu, fun h5 q5 => ⟨vi40 hv, vi40 hv, fun h8 q8 => ⟨bI01 _, ?_⟩⟩⟩
      have x1 : h1.L 61 = flip (h.L 61) u v := by rw [e1, AH.wL_L]
      have b1 : gb (h1.L 61 u) v = false := by rw [x1, gb_flip huv (by omega) (by omega), f1, decide_eq_true (Or.inl ⟨rfl, rfl⟩)]; rfl
      have b2 : gb (h1.L 61 v) u = false := by rw [x1, gb_flip huv (by omega) (by omega), f2, decide_eq_true (Or.inr ⟨rfl, rfl⟩)]; rfl
      rw [cl40 hu] at q5
      change h5 = h1.sL 61 u (h1.L 61 u ||| one v) at q5
      rw [or_xor (by omega) b1] at q5
      have q5 : h5 = h1.wL 61 (va_up (h1.L 61) u (h1.L 61 u ^^^ one v)) := q5
      have x5 : h5.L 61 = va_up (h1.L 61) u (h1.L 61 u ^^^ one v) := by rw [q5, AH.wL_L]
      rw [cl40 hv, x5, va_up_ne _ _ (fun q => huv q.symm)] at q8
      change h8 = h5.sL 61 v (h1.L 61 v ||| one u) at q8
      rw [or_xor (by omega) b2, q5, wL_sL] at q8
      have q8 : h8 = h1.wL 61 (flip (h1.L 61) u v) := q8
      have : h8 = h := by rw [q8, x1, flip_flip huv (by omega) (by omega), e1, wL_wL, wL_id]
      rw [this]
      exact mk_pI rfl
    have A : ∀ u, u ≤ 40 → fF g (1600 - 40 * u) (40 * u) = fF g 1600 0 → zQ none m_X11_isEnough (d + 2 * (k + 1) + 3 + 1) 2 [(0, .ref 53), (1, .int (nI (k + 1))), (2, .int (nI u))] [] h (pI h (fun x => x = bI (en (k + 1) g))) := by
      refine nat_down ?_ (fun u hu ihu => ?_)
      · intro hR
        refine r_X11_isEnough_2 _ _ hw ⟨fun _ => mk_pI ?_, fun z => absurd e40 z⟩
        have : fF g 1600 0 = none := by rw [← hR]; rfl
        rw [en, this]; rfl
      · intro hR
        refine r_X11_isEnough_2 _ _ hw ⟨fun z => absurd z (n40 hu), fun _ => ?_⟩
        rw [nI_add]
        have B : ∀ v, v ≤ 40 → u < v → fF g (1600 - (40 * u + v)) (40 * u + v) = fF g 1600 0 → zQ none m_X11_isEnough (d + 2 * (k + 1) + 3 + 1) 12 [(0, .ref 53), (1, .int (nI (k + 1))), (2, .int (nI u)), (3, .int (nI v))] [] h (pI h (fun x => x = bI (en (k + 1) g))) := by
          refine nat_down ?_ (fun v hv ih2 => ?_)
          · intro _ hR
            refine r_X11_isEnough_12 _ _ _ hw ⟨fun _ => ?_, fun z => absurd e40 z⟩
            rw [nI_add]
            exact ihu hR
          · intro huv hR
            obtain ⟨ee, ec⟩ := isE_uv (g := g) hv huv
            have next : ¬ (isE g (40 * u + v) = true ∧ cm g (40 * u + v) ≠ 0) → _ := fun z => ih2 (by omega) (by rw [← hR, fF_step (by omega) z]; rfl)
            refine r_X11_isEnough_12 _ _ _ hw ⟨fun z => absurd z (n40 hv), fun _ => ⟨vi40 hu, ?_⟩⟩
            rw [cl40 hu, hg u hu, cl40 hv, hg v hv, nI_add]
            refine use_pI (c_has (by omega)) ⟨fun z => next ?_, fun z => ⟨vi40 hu, vi40 hv, ?_⟩⟩
            · rw [ee, show gb (g u) v = false from bF z]
              exact fun q => absurd q.1 (by decide)
            · have zt : gb (g u) v = true := bT z
              rw [← ec]
              refine ⟨fun y => ⟨fun _ => ?_, fun w => absurd ((nI_eq0 (by omega)).mp w) (by omega)⟩, fun y => next (fun q => q.2 ((lg_cmp0 _ _).mp y))⟩
              have hR2 : fF g 1600 0 = some (40 * u + v) := by rw [← hR]; exact fF_hit (by omega) ⟨by rw [ee]; exact zt, fun q => y ((lg_cmp0 _ _).mpr q)⟩
              obtain ⟨t1, ⟨_, t2, t3, t4⟩, _⟩ := first_third hf hR2
              have hl := (t1 _ t3).1
              have hen : en (k + 1) g = (en k (flip g u v) || (en k (flip g u (lb (cm g (40 * u + v)) 40 0)) || en k (flip g v (lb (cm g (40 * u + v)) 40 0)))) := by
                rw [en, hR2]
                show (en k (flip g ((40 * u + v) / 40) ((40 * u + v) % 40)) || _) = _
                rw [show (40 * u + v) / 40 = u by omega, show (40 * u + v) % 40 = v by omega]
              rw [show (40 * u + v) % 40 = v by omega] at hl
              have hb12 : gb (g u) (lb (cm g (40 * u + v)) 40 0) = true ∧ gb (g v) (lb (cm g (40 * u + v)) 40 0) = true := by
                have := t3
                rw [ec, gb_and, Bool.and_eq_true, ← ec] at this
                exact this
              generalize lb (cm g (40 * u + v)) 40 0 = c at t2 t3 t4 hl hen hb12
              have C : ∀ i, i ≤ c → zQ none m_X11_isEnough (d + 2 * (k + 1) + 3 + 1) 61 [(0, .ref 53), (1, .int (nI (k + 1))), (2, .int (nI u)), (3, .int (nI v)), (4, .int (nI i))] [] h (pI h (fun x => x = bI (en (k + 1) g))) := by
                refine nat_down ?_ (fun i hi ih3 => ?_)
                · refine r_X11_isEnough_61 _ _ _ _ hw ⟨vi40 hu, vi40 hv, ?_⟩
                  rw [cl40 hu, hg u hu, cl40 hv, hg v hv, ← ec, nI_subE (by omega), Nat.add_sub_cancel]
                  refine use_pI (c_has (by omega)) ⟨fun _ => ?_, fun w => absurd (bF w) (by rw [t3]; decide)⟩
                  rw [hen]
                  exact use_pI (sub hu hv (by omega) zt) ⟨fun z => mk_pI (bI_t (by rw [bTb z]; rfl)), fun z => use_pI (sub hu t2 (by omega) hb12.1) ⟨fun y => mk_pI (bI_t (by rw [bTb y, Bool.true_or, Bool.or_true])), fun y => use_pI (sub hv t2 (by omega) hb12.2) ⟨fun w => mk_pI (bI_f (by rw [bFb z, bFb y, bFb w]; rfl)), fun w => mk_pI (bI_t (by rw [bTb w, Bool.or_true, Bool.or_true]))⟩⟩⟩
                · refine r_X11_isEnough_61 _ _ _ _ hw ⟨vi40 hu, vi40 hv, ?_⟩
                  rw [cl40 hu, hg u hu, cl40 hv, hg v hv, ← ec, nI_add]
                  exact use_pI (c_has (by omega)) ⟨fun w => absurd (b2 _ |>.mpr (t4 i hi)) w, fun _ => ih3⟩
              exact C 0 (Nat.zero_le _)
        exact B (u + 1) (by omega) (by omega) (by rw [← hR]; exact (fF_skip hu (u + 1) (Nat.le_refl _)).symm)
    exact A 0 (Nat.zero_le _) rfl
end FEWEST3
