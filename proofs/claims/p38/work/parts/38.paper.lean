/-! THE PAPER: letters put one behind another -/
abbrev Tx : Type := Nat × (Nat → Nat)
def tw (q : Tx) (t : Nat) : Tx := (q.1 + 1, va_up q.2 q.1 t)
def CP (h : AH) (q : Tx) : Prop := ∃ pb e, zPap h pb (128 * 2 ^ e) ∧ e ≤ 7 ∧ (pb = 38 ∨ 56 ≤ pb) ∧ pb < h.n ∧ h.I 37 1 = nI q.1 ∧ q.1 ≤ 128 * 2 ^ e ∧ (∀ i, i < q.1 → h.I pb i = nI (q.2 i)) ∧ (∀ i, i < 128 * 2 ^ e → ∃ k, k ≤ 127 ∧ h.I pb i = nI k) ∧ h.n ≤ 56 + e ∧ h.u ≤ 100000 + 256 * 2 ^ e
def pcf (h h' : AH) : Prop := h.n ≤ h'.n ∧ (∀ k, k < 56 → h'.sh k = h.sh k) ∧ (∀ a, a < 56 → a ≠ 37 → h'.P a = h.P a) ∧ (∀ k, k < 56 → k ≠ 37 → k ≠ 38 → h'.I k = h.I k) ∧ ∀ k, k < 56 → h'.L k = h.L k
theorem pcf_rf {h : AH} : pcf h h := ⟨Nat.le_refl _, fun _ _ => rfl, fun _ _ _ => rfl, fun _ _ _ _ => rfl, fun _ _ => rfl⟩
theorem pcf_tr {h h1 h2 : AH} (a : pcf h h1) (b : pcf h1 h2) : pcf h h2 :=
  ⟨Nat.le_trans a.1 b.1, fun k hk => (b.2.1 k hk).trans (a.2.1 k hk), fun k hk q => (b.2.2.1 k hk q).trans (a.2.2.1 k hk q), fun k hk q1 q2 => (b.2.2.2.1 k hk q1 q2).trans (a.2.2.2.1 k hk q1 q2), fun k hk => (b.2.2.2.2 k hk).trans (a.2.2.2.2 k hk)⟩
theorem fits_k : ∀ k, k < 128 → fits .byte (.int (nI k)) = true := by decide +kernel
section PAPER
variable {d : Nat} {h : AH} {q : Tx}
theorem c_put1 {g : AH} {pb e t : Nat} (hg : zWF g) (hz : zPap g pb (128 * 2 ^ e)) (he : e ≤ 7) (hpb : pb = 38 ∨ 56 ≤ pb) (hn : pb < g.n) (h1 : g.I 37 1 = nI q.1) (hW : q.1 < 128 * 2 ^ e) (hT : ∀ i, i < q.1 → g.I pb i = nI (q.2 i)) (hB : ∀ i, i < 128 * 2 ^ e → ∃ k, k ≤ 127 ∧ g.I pb i = nI k) (hN : g.n ≤ 56 + e) (hU : g.u ≤ 100000 + 256 * 2 ^ e) (ht : t ≤ 127) (hf : pcf h g) : vp_in (nI q.1) (128 * 2 ^ e) ∧ (∀ h10, h10 = g.sI pb (nI q.1).toNatClampNeg (nI t).toInt8.toInt32.toInt8.toInt32 → ∀ h13, h13 = h10.sI 37 1 ((h10.I 37 1) + (nI 1)) → kV (fun h' => CP h' (tw q t) ∧ pcf h h') none h13) := by
  have hle : 128 * 2 ^ e ≤ 16384 := Nat.le_trans (Nat.mul_le_mul_left 128 (Nat.pow_le_pow_right (by decide) he)) (by decide)
  rw [cl_n hW (by omega), byte4 t (by omega)]
  refine ⟨vp_in_nI hW (by omega), fun h10 q10 h13 q13 => ?_⟩
  have w : h10.I 37 1 = nI q.1 := by
    rw [q10]
    show va_up g.I pb _ 37 1 = _
    rw [va_up_ne _ _ (by omega)]; exact h1
  rw [w, nI_add] at q13
  have e1 : h13.I pb = va_up (g.I pb) q.1 (nI t) := by
    rw [q13]
    show va_up h10.I 37 _ pb = _
    rw [va_up_ne _ _ (by omega), q10, AH.sI_I]
  refine mk_kV (wf_I q13 (wf_I q10 hg)) ⟨⟨pb, e, ?_, he, hpb, by rw [q13, q10]; exact hn, by rw [q13]; rfl, hW, fun i hi => ?_, fun i hi => ?_, by rw [q13, q10]; exact hN, by rw [q13, q10]; exact hU⟩, pcf_tr hf ⟨by rw [q13, q10]; exact Nat.le_refl _, fun k _ => by rw [q13, q10]; rfl, fun a _ _ => by rw [q13, q10]; rfl, fun k hk k1 k2 => ?_, fun k _ => by rw [q13, q10]; rfl⟩⟩
  · rw [q13, q10]; exact hz
  · rw [e1]
    show _ = nI (va_up q.2 q.1 t i)
    by_cases z : i = q.1
    · rw [z, va_up_self, va_up_self]
    · rw [va_up_ne _ _ z, va_up_ne _ _ z]
      exact hT i (by have : i < q.1 + 1 := hi; omega)
  · rw [e1]
    by_cases z : i = q.1
    · rw [z, va_up_self]; exact ⟨t, ht, rfl⟩
    · rw [va_up_ne _ _ z]; exact hB i hi
  · rw [q13]
    show va_up h10.I 37 _ k = _
    rw [va_up_ne _ _ k1, q10]
    show va_up g.I pb _ k = _
    rw [va_up_ne _ _ (by omega)]
theorem c_write {t : Nat} (hw : zWF h) (hC : CP h q) (hW : q.1 < 12480) (ht : t ≤ 127) : zK (d + 2) m_X4_write [.ref 37, .int (nI t)] h (kV (fun h' => CP h' (tw q t) ∧ pcf h h')) := by
  obtain ⟨pb, e, hz, he, hpb, hn, h1, hWl, hT, hB, hN, hU⟩ := hC
  have hle : 128 * 2 ^ e ≤ 16384 := Nat.le_trans (Nat.mul_le_mul_left 128 (Nat.pow_le_pow_right (by decide) he)) (by decide)
  have h71 := hw.1
  refine r_X4_write_0 _ hw ?_
  rw [h1, nI_ltE (by omega) (by decide)]
  refine ⟨fun _ => ⟨pb, _, hz, ?_, ?_⟩, fun z => absurd hW z⟩
  · rw [nI_ltE (by omega) (by omega)]
    exact fun z => ⟨pb, _, hz, c_put1 hw hz he hpb hn h1 z hT hB hN hU ht pcf_rf⟩
  · rw [nI_ltE (by omega) (by omega)]
    intro z
    have he6 : e ≤ 6 := by
      apply Classical.byContradiction
      intro y
      have : e = 7 := by omega
      subst this
      omega
    have hlen : 128 * 2 ^ (e + 1) = 2 * (128 * 2 ^ e) := by rw [Nat.pow_succ]; omega
    have hle2 : 128 * 2 ^ (e + 1) ≤ 16384 := Nat.le_trans (Nat.mul_le_mul_left 128 (Nat.pow_le_pow_right (by decide) (show e + 1 ≤ 7 by omega))) (by decide)
    have hpos : 1 ≤ 128 * 2 ^ e := Nat.mul_le_mul (show 1 ≤ 128 by decide) (Nat.two_pow_pos e)
    refine ⟨pb, _, hz, pb, _, hz, r_J7_copyOf_9075b_0 pb _ (128 * 2 ^ e) hw hz.2 ?_⟩
    rw [nI_mulE, ← hlen]
    refine ⟨fun _ => ⟨128 * 2 ^ (e + 1), nI_lt0 (by omega), cl_n (n := 16385) (by omega) (by decide), by omega, fun h4 q4 => ?_⟩, fun y => absurd ((nI_eqE (by omega) (by omega)).mp y) (by omega)⟩
    rw [zmmin_n (by omega) (by omega), show min (128 * 2 ^ e) (128 * 2 ^ (e + 1)) = 128 * 2 ^ e by omega, cl_n (n := 16385) (show 128 * 2 ^ e < 16385 by omega) (by decide), k0]
    have hpbn : pb ≠ h.n := by omega
    have x4 : h4.I pb = h.I pb := by rw [q4]; exact va_up_ne _ _ hpbn
    have y4 : h4.I h.n = fun _ => 0 := by rw [q4]; exact va_up_self _ _ _
    have hw4 : zWF h4 := wf_new q4 hw
    refine ⟨?_, ⟨by decide, by decide, nI_lt0 (by omega), by omega, by omega⟩, fun i hi => ?_, fun h8 q8 => ⟨_, rfl, wf_I q8 hw4, fun h24 q24 => ?_⟩⟩
    · rw [q4]
      show va_up h.sh h.n _ pb = _
      rw [va_up_ne _ _ hpbn]; exact hz.2
    · rw [x4, Nat.zero_add]
      obtain ⟨k, hk, e⟩ := hB i hi
      rw [e]
      exact fits_k k (by omega)
    · have hw24 : zWF h24 := wf_P37 q24 (wf_I q8 hw4)
      have hz24 : zPap h24 h.n (128 * 2 ^ (e + 1)) := by
        refine ⟨?_, ?_⟩
        · rw [q24]
          show va_up h8.P 37 (va_up (h8.P 37) 0 (some h.n)) 37 0 = _
          rw [va_up_self, va_up_self]
        · rw [q24, q8, q4]
          exact va_up_self _ _ _
      have i37 : h24.I 37 1 = nI q.1 := by
        rw [q24, q8]
        show va_up h4.I h.n _ 37 1 = _
        rw [va_up_ne _ _ (by omega), q4]
        show va_up h.I h.n _ 37 1 = _
        rw [va_up_ne _ _ (by omega)]; exact h1
      have inb : h24.I h.n = va_cpy (h.I pb) (fun _ => 0) 0 0 (128 * 2 ^ e) := by
        rw [q24, q8]
        show va_up h4.I h.n _ h.n = _
        rw [va_up_self, x4, y4]
      have hW2 : q.1 = 128 * 2 ^ e := by omega
      refine ⟨h.n, _, hz24, ?_⟩
      rw [i37]
      refine c_put1 hw24 hz24 (by omega) (Or.inr h71) (by rw [q24, q8, q4]; exact Nat.lt_succ_self _) i37 (by omega) (fun i hi => ?_) (fun i hi => ?_) ?_ ?_ ht ⟨?_, fun k hk => ?_, fun a ha h37 => ?_, fun k hk _ _ => ?_, fun k hk => ?_⟩
      · rw [inb, cpy0 (by omega)]; exact hT i hi
      · rw [inb]
        by_cases y : i < 128 * 2 ^ e
        · rw [cpy0 y]; exact hB i y
        · rw [pk_cpy_out (by omega)]
          exact ⟨0, by decide, nI_0.symm⟩
      · rw [q24, q8, q4]; show h.n + 1 ≤ _; omega
      · rw [q24, q8, q4]; show h.u + 128 * 2 ^ (e + 1) ≤ _; rw [hlen, Nat.pow_succ]; omega
      · rw [q24, q8, q4]; exact Nat.le_succ _
      · rw [q24, q8, q4]; exact va_up_ne _ _ (by omega)
      · rw [q24]
        show va_up h8.P 37 _ a = _
        rw [va_up_ne _ _ h37, q8, q4]
        exact va_up_ne _ _ (by omega)
      · rw [q24, q8]
        show va_up h4.I h.n _ k = _
        rw [va_up_ne _ _ (by omega), q4]
        exact va_up_ne _ _ (by omega)
      · rw [q24, q8, q4]; exact va_up_ne _ _ (by omega)
end PAPER
