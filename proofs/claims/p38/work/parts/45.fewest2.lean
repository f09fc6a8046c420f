def ot (g : Nat → Int64) : Int32 := match fF g 1600 0 with
  | none => -1
  | some e => nI (40 * e + lb (cm g e) 40 0)
theorem fF_step {g : Nat → Int64} {e : Nat} (he : e < 1600) (hn : ¬ (isE g e = true ∧ cm g e ≠ 0)) : fF g (1600 - e) e = fF g (1600 - (e + 1)) (e + 1) := by
  have e1 : 1600 - e = (1600 - (e + 1)) + 1 := by omega
  rw [e1]
  exact if_neg hn
theorem fF_hit {g : Nat → Int64} {e : Nat} (he : e < 1600) (hy : isE g e = true ∧ cm g e ≠ 0) : fF g (1600 - e) e = some e := by
  have e1 : 1600 - e = (1600 - (e + 1)) + 1 := by omega
  rw [e1]
  exact if_pos hy
theorem isE_uv {g : Nat → Int64} {u v : Nat} (hv : v < 40) (huv : u < v) : isE g (40 * u + v) = gb (g u) v ∧ cm g (40 * u + v) = g u &&& g v := by
  unfold isE cm
  rw [show (40 * u + v) / 40 = u by omega, show (40 * u + v) % 40 = v by omega, decide_eq_true huv, Bool.true_and]
  exact ⟨rfl, rfl⟩
theorem fF_skip {g : Nat → Int64} {u : Nat} (hu : u < 40) : ∀ k, k ≤ u + 1 → fF g (1600 - 40 * u) (40 * u) = fF g (1600 - (40 * u + k)) (40 * u + k) := by
  intro k
  induction k with
  | zero => intro _; rfl
  | succ k ih2 =>
    intro hk
    rw [ih2 (by omega), fF_step (by omega)]
    · rfl
    · unfold isE
      rw [decide_eq_false (show ¬ (40 * u + k) / 40 < (40 * u + k) % 40 by omega), Bool.false_and]
      exact fun q => absurd q.1 (by decide)
section FEWEST2
variable {d : Nat} {h : AH} {g : Nat → Int64}
theorem c_any (hw : zWF h) (hf : GF g) (hg : ∀ k, k < 40 → h.L 22 k = g k) : zK (d + 3) m_X1_anyTriangle [.ref 22] h (pI h (fun x => x = ot g)) := by
  refine r_X1_anyTriangle_0 hw ?_
  have A : ∀ u, u ≤ 40 → fF g (1600 - 40 * u) (40 * u) = fF g 1600 0 → zQ none m_X1_anyTriangle (d + 2 + 1) 2 [(0, .ref 22), (1, .int (nI u))] [] h (pI h (fun x => x = ot g)) := by
    refine nat_down ?_ (fun u hu ih => ?_)
    · intro hR
      refine r_X1_anyTriangle_2 _ hw ⟨fun _ => mk_pI ?_, fun z => absurd e40 z⟩
      unfold ot
      rw [← hR]
      rfl
    · intro hR
      refine r_X1_anyTriangle_2 _ hw ⟨fun z => absurd z (n40 hu), fun _ => ?_⟩
      rw [nI_add]
      have B : ∀ v, v ≤ 40 → u < v → fF g (1600 - (40 * u + v)) (40 * u + v) = fF g 1600 0 → zQ none m_X1_anyTriangle (d + 2 + 1) 12 [(0, .ref 22), (1, .int (nI u)), (2, .int (nI v))] [] h (pI h (fun x => x = ot g)) := by
        refine nat_down ?_ (fun v hv ih2 => ?_)
        · intro _ hR
          refine r_X1_anyTriangle_12 _ _ hw ⟨fun _ => ?_, fun z => absurd e40 z⟩
          rw [nI_add]
          exact ih hR
        · intro huv hR
          obtain ⟨ee, ec⟩ := isE_uv (g := g) hv huv
          have next : ¬ (isE g (40 * u + v) = true ∧ cm g (40 * u + v) ≠ 0) → zQ none m_X1_anyTriangle (d + 2 + 1) 12 [(0, .ref 22), (1, .int (nI u)), (2, .int (nI (v + 1)))] [] h (pI h (fun x => x = ot g)) := fun z => ih2 (by omega) (by rw [← hR, fF_step (by omega) z]; rfl)
          refine r_X1_anyTriangle_12 _ _ hw ⟨fun z => absurd z (n40 hv), fun _ => ⟨vi40 hu, ?_⟩⟩
          rw [cl40 hu, hg u hu, nI_add]
          refine use_pI (c_hasBit (by omega)) ⟨fun z => ⟨fun _ => next ?_, fun y => absurd ((lg_cmp0 _ _).mpr rfl) y⟩, fun z => ⟨vi40 hu, vi40 hv, use_pL (c_above hv) ?_⟩⟩
          · rw [ee, show gb (g u) v = false from bF z]
            exact fun q => absurd q.1 (by decide)
          · have zt : gb (g u) v = true := bT z
            rw [cl40 hv, hg v hv, lg_cmp0]
            have hM : ∀ i, gb ((g u &&& g v) &&& ((1099511627775 : Int64) &&& ((-2 : Int64) <<< ((nI v).toInt64 &&& 63)))) i = (gb (g u &&& g v) i && decide (v < i ∧ i < 40)) := by
              intro i
              rw [gb_and]
              by_cases hi : i < 40
              · rw [gb_above hv hi]
                by_cases y : v < i <;> simp [y, hi]
              · have : gb (g u &&& g v) i = false := by
                  rw [gb_and]
                  cases hc : gb (g u) i with
                  | false => rfl
                  | true => exact absurd (hf.2.2 _ _ hc).2 hi
                rw [this]; rfl
            by_cases hc0 : cm g (40 * u + v) = 0
            · refine ⟨fun _ => next (fun q => q.2 hc0), fun y => absurd ?_ y⟩
              apply gb_ext
              intro i _
              rw [hM, ← ec, hc0, gb_0]; rfl
            · have hR2 : fF g 1600 0 = some (40 * u + v) := by rw [← hR]; exact fF_hit (by omega) ⟨by rw [ee]; exact zt, hc0⟩
              obtain ⟨t1, ⟨_, t2, t3, t4⟩, _⟩ := first_third hf hR2
              have hv2 := (t1 _ t3).1
              rw [show (40 * u + v) % 40 = v by omega] at hv2
              have hbit : gb ((g u &&& g v) &&& ((1099511627775 : Int64) &&& ((-2 : Int64) <<< ((nI v).toInt64 &&& 63)))) (lb (cm g (40 * u + v)) 40 0) = true := by
                rw [hM, ← ec, t3, decide_eq_true ⟨hv2, t2⟩]; rfl
              refine ⟨fun y => absurd y (gb_ne0 hbit), fun _ => use_pI (c_ntz (k := lb (cm g (40 * u + v)) 40 0) (by omega) hbit (fun i hi => ?_)) (mk_pI ?_)⟩
              · rw [hM, ← ec, t4 i hi]; rfl
              · rw [nI_mulE, nI_mulE, nI_add, nI_add]
                have : ot g = nI (40 * (40 * u + v) + lb (cm g (40 * u + v)) 40 0) := by unfold ot; rw [hR2]
                rw [this]
                congr 1; omega
      exact B (u + 1) (by omega) (by omega) (by rw [← hR]; exact (fF_skip hu (u + 1) (Nat.le_refl _)).symm)
  exact A 0 (Nat.zero_le _) rfl
theorem back22 {u v : Nat} (hu : u < 40) (hv : v < 40) (huv : u ≠ v) : (h.wL 22 (flip (h.L 22) u v)).wL 22 (flip ((h.wL 22 (flip (h.L 22) u v)).L 22) u v) = h := by
  rw [AH.wL_L, flip_flip huv (by omega) (by omega), wL_wL, wL_id]
theorem c_breaksWith : ∀ k, k ≤ 4 → ∀ {h : AH} {g : Nat → Int64}, zWF h → GF g → (∀ k, k < 40 → h.L 22 k = g k) → zK (d + 2 * k + 4) m_X1_breaksWith [.ref 22, .int (nI k)] h (pI h (fun x => x = bI (en k g))) := by
  intro k
  induction k with
  | zero =>
    intro _ h g hw hf hg
    refine r_X1_breaksWith_0 _ hw (use_pI (c_any hw hf hg) ?_)
    cases hR : fF g 1600 0 with
    | none =>
      have eo : ot g = -1 := by unfold ot; rw [hR]
      rw [eo]
      exact ⟨fun z => absurd z (by decide), fun _ => mk_pI (by rw [en, hR]; rfl)⟩
    | some e =>
      have eo : ot g = nI (40 * e + lb (cm g e) 40 0) := by unfold ot; rw [hR]
      rw [eo]
      exact ⟨fun _ => ⟨fun z => absurd z (by decide), fun _ => mk_pI (by rw [en, hR]; rfl)⟩, fun z => absurd (nI_0le (by have := first_third hf hR; omega)) z⟩
  | succ k ih =>
    intro hk h g hw hf hg
    refine r_X1_breaksWith_0 _ hw (use_pI (c_any hw hf hg) ?_)
    cases hR : fF g 1600 0 with
    | none =>
      have eo : ot g = -1 := by unfold ot; rw [hR]
      rw [eo]
      exact ⟨fun z => absurd z (by decide), fun _ => mk_pI (by rw [en, hR]; rfl)⟩
    | some e =>
      obtain ⟨t1, ⟨_, t2, t3, t4⟩, he, hE, _⟩ := first_third hf hR
      obtain ⟨hlt, hgb⟩ := isE_b hE
      have hl := (t1 _ t3).1
      have hen : en (k + 1) g = (en k (flip g (e / 40) (e % 40)) || (en k (flip g (e / 40) (lb (cm g e) 40 0)) || en k (flip g (e % 40) (lb (cm g e) 40 0)))) := by rw [en, hR]
      have sub : ∀ {u v : Nat}, u < 40 → v < 40 → u ≠ v → zK (d + 2 * (k + 1) + 3) m_X1_breaksWithout [.ref 22, .int (nI u), .int (nI v), .int (nI (k + 1))] h (pI h (fun x => x = bI (en k (flip g u v)))) := by
        intro u v hu hv huv
        refine r_X1_breaksWithout_0 _ _ _ hw (use_kV (c_flipX hw hu hv huv) (fun h1 hw1 e1 => ?_))
        rw [nI_subE (by omega), Nat.add_sub_cancel]
        have ih' := ih (by omega) hw1 (GF_flip hf huv hu hv) (fun j hj => by rw [e1, AH.wL_L]; exact flip_cong hu hv hg j hj)
        rw [show d + 2 * k + 4 = d + 2 * (k + 1) + 2 by omega] at ih'
        refine use_pI ih' (use_kV (c_flipX hw1 hu hv huv) (fun h3 hw3 e3 => ⟨bI01 _, ?_⟩))
        have : h3 = h := by rw [e3, e1]; exact back22 hu hv huv
        rw [this]
        exact mk_pI rfl
      have eo : ot g = nI (40 * e + lb (cm g e) 40 0) := by unfold ot; rw [hR]
      rw [eo]
      generalize lb (cm g e) 40 0 = c at t2 t3 t4 hl hen
      have x1 : nI (40 * e + c) / nI 1600 = nI (e / 40) := by rw [nI_divE (by omega) (by decide) (by decide)]; congr 1; omega
      have x2 : nI (40 * e + c) / nI 40 - nI (40 * e + c) / nI 40 / nI 40 * nI 40 = nI (e % 40) := by rw [nI_divE (a := 40 * e + c) (by omega) (by decide) (by decide), nI_remE (by omega) (by decide) (by decide)]; congr 1; omega
      have x3 : nI (40 * e + c) - nI (40 * e + c) / nI 40 * nI 40 = nI c := by rw [nI_remE (by omega) (by decide) (by decide)]; congr 1; omega
      rw [x1, x2, x3, hen]
      refine ⟨fun _ => ⟨fun _ => use_pI (sub (by omega) (by omega) (by omega)) ⟨fun z => mk_pI (bI_t (by rw [bTb z]; rfl)), fun z => use_pI (sub (by omega) (by omega) (by omega)) ⟨fun y => mk_pI (bI_t (by rw [bTb y, Bool.true_or, Bool.or_true])), fun y => use_pI (sub (by omega) (by omega) (by omega)) ⟨fun w => mk_pI (bI_f (by rw [bFb z, bFb y, bFb w]; rfl)), fun w => mk_pI (bI_t (by rw [bTb w, Bool.or_true, Bool.or_true]))⟩⟩⟩, fun z => absurd ((nI_0lt (by omega)).mpr (by omega)) z⟩, fun z => absurd (nI_0le (by omega)) z⟩
end FEWEST2
