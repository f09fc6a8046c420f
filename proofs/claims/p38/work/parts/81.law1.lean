/-! the law's own small methods -/
theorem w0 : vp_in (nI 0) 8 := vp_in_nI (by decide) (by decide)
theorem w1 : vp_in (nI 1) 8 := vp_in_nI (by decide) (by decide)
theorem w2 : vp_in (nI 2) 8 := vp_in_nI (by decide) (by decide)
theorem w3 : vp_in (nI 3) 8 := vp_in_nI (by decide) (by decide)
theorem w4 : vp_in (nI 4) 8 := vp_in_nI (by decide) (by decide)
theorem w5 : vp_in (nI 5) 8 := vp_in_nI (by decide) (by decide)
theorem o0 : vp_in (nI 0) 1 := vp_in_nI (by decide) (by decide)
section LAW1
variable {d : Nat} {h : AH}
theorem l_bits (x : Int64) (hw : zWF h) : zK (d + 1) m_L_bits [.long x] h (pI h (fun y => y = nI (pc x))) := by
  refine r_L_bits_0 x hw ?_
  have key : ∀ (n : Nat) (k : Nat) (y : Int64), pc y = n → zQ none m_L_bits (d + 1) 4 [(2, .int (nI k)), (3, .long y)] [] h (pI h (fun z => z = nI (k + n))) := by
    intro n
    induction n with
    | zero =>
      intro k y hy
      refine r_L_bits_4 (nI k) y hw ⟨fun q => mk_pI rfl, fun q => ?_⟩
      rw [lg_cmp0] at q
      have := pc_kern q
      omega
    | succ n ih =>
      intro k y hy
      refine r_L_bits_4 (nI k) y hw ⟨fun q => ?_, fun q => ?_⟩
      · rw [lg_cmp0] at q
        subst q
        rw [pc_0] at hy
        cases hy
      · rw [lg_cmp0] at q
        have h1 := pc_kern q
        rw [nI_add]
        have := ih (k + 1) (y &&& (y - 1)) (by omega)
        rw [show k + (n + 1) = k + 1 + n by omega]
        exact this
  have := key (pc x) 0 x rfl
  rw [Nat.zero_add] at this
  exact this
theorem l_has {l : Int64} {k : Nat} (hw : zWF h) (hk : k < 64) : zK (d + 1) m_L_has [.long l, .int (nI k)] h (pI h (fun x => x = bI (gb l k))) := by
  refine r_L_has_0 l (nI k) hw ⟨fun q => mk_pI ?_, fun q => mk_pI ?_⟩
  · rw [ne_eq, lg_cmp0, hasE2 hk] at q; rw [ts_nt q]; rfl
  · rw [lg_cmp0, hasE2 hk] at q; rw [q]; rfl
theorem l_bound {sp : Nat} (hw : zWF h) (hs : h.I 54 0 = nI sp) (hsp : sp ≤ 1600) : zK (d + 1) m_L_bound [.ref 54] h (pI h (fun x => x = nI (bnd sp))) := by
  refine r_L_bound_0 hw ?_
  have key : ∀ n t, n + t = 40 → zQ none m_L_bound (d + 1) 2 [(0, .ref 54), (1, .int (nI t))] [] h (pI h (fun x => x = nI (bl sp n t))) := by
    intro n
    induction n with
    | zero =>
      intro t ht
      rw [Nat.zero_add] at ht
      subst ht
      refine r_L_bound_2 _ hw ⟨w0, fun _ => mk_pI rfl, fun q => absurd ?_ q⟩
      rw [k0, hs, nI_mulE, nI_leE (by omega) (by decide)]
      omega
    | succ n ih =>
      intro t ht
      have htt : t * t < 1600 := Nat.lt_of_le_of_lt (Nat.mul_le_mul (show t ≤ 39 by omega) (show t ≤ 39 by omega)) (by decide)
      refine r_L_bound_2 _ hw ?_
      rw [k0, hs, nI_mulE, nI_leE (by omega) (by omega), nI_add]
      refine ⟨w0, fun q => mk_pI (congrArg nI (if_pos q)).symm, fun q => ?_⟩
      have e : bl sp (n + 1) t = bl sp n (t + 1) := if_neg q
      rw [e]
      exact ih (t + 1) (by omega)
  exact key 39 1 rfl
theorem l_shared {u v : Nat} (hw : zWF h) (hu : u < 40) (hv : v < 40) : zK (d + 2) m_L_shared [.ref 53, .int (nI u), .int (nI v)] h (pI h (fun x => x = nI (pc (h.L 53 u &&& h.L 53 v)))) := by
  refine r_L_shared_0 (nI u) (nI v) hw ⟨vi40 hu, vi40 hv, ?_⟩
  rw [cl40 hu, cl40 hv]
  exact use_pI (l_bits _ hw) (mk_pI rfl)
/-- an int, whatever it is -/
theorem l_cell {L : Nat} {xs : Nat → Int32} {i : Nat} (hw : zWF h) (hi : i < 1000) (hL : L ≤ 260) {Q : Int32 → Prop} (k : ∀ x, Q x) : zKX (some (L, xs)) (d + 1) m_L_cell [.ref 0, .int (nI i)] h (pI h Q) := by
  refine r_L_cell_0 L xs (nI i) hw ?_
  refine ⟨fun _ => ⟨_, rfl, rfl, k _⟩, fun q => ⟨vp_in_nI ?_ (by omega), ⟨_, rfl, rfl, k _⟩⟩⟩
  rw [nI_leE (by omega) (by omega)] at q
  omega
theorem wbd_of {x : Int32} {z : Int} (e : x.toInt = z) (h1 : -2000000 ≤ z) (h2 : z ≤ 2000000) : wbd x := ⟨by omega, by omega⟩
theorem k_1600 {a b : Nat} (ha : a < 40) (hb : b < 40) : nI 40 * nI a + nI b = nI (40 * a + b) ∧ 40 * a + b < 1600 := ⟨by rw [nI_mulE, nI_add], by omega⟩
theorem l_worth {u v : Nat} (e : Int32) (hw : zWF h) (hu : u < 40) (hv : v < 40) {Q : Int32 → Prop} (k : ∀ x, wbd x → Q x) : zK (d + 1) m_L_worth [.int (nI u), .int (nI v), .int e] h (pI h Q) := by
  have a1 : ∀ {a b : Nat}, a < 40 → b < 40 → pI h Q (some (.int ((nI 40 * nI a + nI b) * (nI 40 * nI a + nI b) - nI 1200000))) h := by
    intro a b ha hb
    obtain ⟨e1, e2⟩ := k_1600 ha hb
    refine ⟨_, rfl, rfl, k _ ?_⟩
    rw [e1, nI_mulE]
    have e3 : (40 * a + b) * (40 * a + b) ≤ 1599 * 1599 := Nat.mul_le_mul (by omega) (by omega)
    exact wbd_of (pk_sub_toInt (by omega) (by decide)) (by omega) (by omega)
  have a2 : ∀ {a b : Nat}, a < 40 → b < 40 → pI h Q (some (.int (nI 2000000 - (nI 40 * nI a + nI b)))) h := by
    intro a b ha hb
    obtain ⟨e1, e2⟩ := k_1600 ha hb
    refine ⟨_, rfl, rfl, k _ ?_⟩
    rw [e1]
    exact wbd_of (pk_sub_toInt (by decide) (by omega)) (by omega) (by omega)
  have a3 : ∀ {a b : Nat}, a < 40 → b < 40 → pI h Q (some (.int (((nI 40 * nI a + nI b) - (nI 40 * nI a + nI b) / nI 7 * nI 7) - nI 3))) h := by
    intro a b ha hb
    obtain ⟨e1, e2⟩ := k_1600 ha hb
    refine ⟨_, rfl, rfl, k _ ?_⟩
    rw [e1, nI_remE (by omega) (by decide) (by decide)]
    exact wbd_of (pk_sub_toInt (by omega) (by decide)) (by omega) (by omega)
  have a4 : pI h Q (some (.int (nI 1))) h := ⟨_, rfl, rfl, k _ (wbd_of (z := 1) (by decide) (by decide) (by decide))⟩
  exact r_L_worth_0 _ _ _ hw ⟨fun _ => ⟨fun _ => ⟨fun _ => ⟨fun _ => ⟨fun _ => a1 hv hu, fun _ => a2 hv hu⟩, fun _ => a3 hv hu⟩, fun _ => a4⟩, fun _ => ⟨fun _ => ⟨fun _ => ⟨fun _ => a1 hv hv, fun _ => a2 hv hv⟩, fun _ => a3 hv hv⟩, fun _ => a4⟩⟩, fun _ => ⟨fun _ => ⟨fun _ => ⟨fun _ => ⟨fun _ => a1 hu hu, fun _ => a2 hu hu⟩, fun _ => a3 hu hu⟩, fun _ => a4⟩, fun _ => ⟨fun _ => ⟨fun _ => ⟨fun _ => a1 hu hv, fun _ => a2 hu hv⟩, fun _ => a3 hu hv⟩, fun _ => a4⟩⟩⟩
end LAW1
