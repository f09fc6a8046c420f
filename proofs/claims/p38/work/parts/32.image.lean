/-! THE IMAGE -/
def CW (h : AH) (a nr wr pa cl : Nat) (s : NS) (n : Nat) (en : Nat → Ent) : Prop := (∀ k, k < 40 → h.L nr k = s.f k) ∧ (∀ u v, u < 40 → v < 40 → gb (s.f u) v = true → h.I wr (pr u v) = s.w (pr u v)) ∧ h.I a 3 = nI s.E ∧ h.I a 4 = nI s.sp ∧ h.L a 5 = s.hv ∧ h.L a 6 = lN s.mv ∧ h.L a 7 = lN s.cr ∧ h.L a 8 = lN s.rb ∧ h.L a 9 = lN s.ch ∧ h.I pa 1 = nI n ∧ n ≤ 60 ∧ ∀ i, i < n → cE (h.I cl) i (en i)
theorem GF_0 {f : Nat → Int64} (hf : GF f) {k : Nat} (hk : 40 ≤ k) : f k = 0 := gb_ext (fun i _ => by
  rw [gb_0]
  cases hc : gb (f k) i with
  | false => rfl
  | true => exact absurd (hf.2.2 k i hc).1 (by omega))
theorem cl1600 : (nI 1600).toNatClampNeg = 1600 := nI_clamp (by decide)
theorem cl240 : (nI 240).toNatClampNeg = 240 := nI_clamp (by decide)
theorem cl_40 : (nI 40).toNatClampNeg = 40 := nI_clamp (by decide)
theorem cpy0 {α : Type} {f g : Nat → α} {n j : Nat} (h : j < n) : va_cpy f g 0 0 n j = f j := by
  rw [pk_cpy_in (Nat.zero_le _) (by omega)]; congr 1; omega
section IMAGE
variable {d : Nat} {h : AH} {s : NS} {n c : Nat} {en : Nat → Ent}
theorem CW_of (q : cN h s n en) : CW h 2 3 4 5 6 s n en := by
  obtain ⟨⟨a1, a2, a3, a4, a5, a6, a7, a8, a9⟩, b1, b2, b3⟩ := q
  exact ⟨fun k _ => by rw [a1], a2, a3, a4, a5, a6, a7, a8, a9, b1, b2, b3⟩
theorem CW_to (q : CW h 2 3 4 5 6 s n en) (hf : GF s.f) (h0 : ∀ k, 40 ≤ k → h.L 3 k = 0) : cN h s n en := by
  obtain ⟨a1, a2, a3, a4, a5, a6, a7, a8, a9, b1, b2, b3⟩ := q
  refine ⟨⟨?_, a2, a3, a4, a5, a6, a7, a8, a9⟩, b1, b2, b3⟩
  funext k
  rcases Nat.lt_or_ge k 40 with z | z
  · exact a1 k z
  · rw [h0 k z, GF_0 hf z]
theorem cE_cpy {I J : Nat → Int32} {i : Nat} {x : Ent} (hi : i < 60) (q : cE I i x) : cE (va_cpy I J 0 0 240) i x := by
  obtain ⟨a1, a2, a3, a4⟩ := q
  exact ⟨by rw [cpy0 (by omega)]; exact a1, by rw [cpy0 (by omega)]; exact a2, by rw [cpy0 (by omega)]; exact a3, by rw [cpy0 (by omega)]; exact a4⟩
theorem c_becomeK (hw : zWF h) (q : CW h 2 3 4 5 6 s n en) : zK (d + 2) m_X3_become [.ref 7, .ref 2] h (kV (fun h' => CW h' 7 8 9 10 11 s n en ∧ h'.L 7 10 = h.L 2 10 ∧ frm [7, 9, 10, 11] [7, 8] h h')) := by
  obtain ⟨a1, a2, a3, a4, a5, a6, a7, a8, a9, b1, b2, b3⟩ := q
  refine r_X3_become_k_0 hw ⟨⟨by decide, by decide, by decide, by decide, by decide⟩, fun h2 q2 => ⟨⟨by decide, by decide, by decide, by decide, by decide⟩, fun h4 q4 => ?_⟩⟩
  rw [k0, cl_40] at q2
  rw [k0, cl1600] at q4
  have hw4 : zWF h4 := wf_I q4 (wf_L q2 hw)
  refine r_X5_become_k_0 hw4 ⟨⟨by decide, by decide, by decide, by decide, by decide⟩, fun h5 q5 h5' q5' => mk_kV (wf_I q5' (wf_I q5 hw4)) (fun h6 q6 h7 q7 h8 q8 h9 q9 h10 q10 h11 q11 h12 q12 h13 q13 => ?_)⟩
  rw [k0, cl240] at q5
  have g5 : frm [4, 6, 5, 9, 10, 11] [3, 8] h h5' := frm_tr (frm_wL q2 (by decide)) (frm_tr (frm_wI q4 (by decide)) (frm_tr (frm_wI q5 (by decide)) (frm_wI q5' (by decide))))
  have w3 : h5'.I 2 3 = nI s.E := by rw [frm_I g5 (by decide)]; exact a3
  rw [w3] at q6
  have g6 : frm [4, 6, 5, 3, 9, 10, 11, 8, 7] [4, 6, 5, 3, 9, 10, 11, 8, 7] h h6 := frm_tr (frm_up g5 (by decide) (by decide)) (frm_wI q6 (by decide))
  have w4 : h6.I 2 4 = nI s.sp := by rw [frm_I g6 (by decide)]; exact a4
  rw [w4] at q7
  have g7 : frm [4, 6, 5, 3, 9, 10, 11, 8, 7] [4, 6, 5, 3, 9, 10, 11, 8, 7] h h7 := frm_tr (frm_up g6 (by decide) (by decide)) (frm_wI q7 (by decide))
  have w5 : h7.L 2 5 = s.hv := by rw [frm_L g7 (by decide)]; exact a5
  rw [w5] at q8
  have g8 : frm [4, 6, 5, 3, 9, 10, 11, 8, 7] [4, 6, 5, 3, 9, 10, 11, 8, 7] h h8 := frm_tr (frm_up g7 (by decide) (by decide)) (frm_wL q8 (by decide))
  have w6 : h8.L 2 6 = lN s.mv := by rw [frm_L g8 (by decide)]; exact a6
  rw [w6] at q9
  have g9 : frm [4, 6, 5, 3, 9, 10, 11, 8, 7] [4, 6, 5, 3, 9, 10, 11, 8, 7] h h9 := frm_tr (frm_up g8 (by decide) (by decide)) (frm_wL q9 (by decide))
  have w7 : h9.L 2 7 = lN s.cr := by rw [frm_L g9 (by decide)]; exact a7
  rw [w7] at q10
  have g10 : frm [4, 6, 5, 3, 9, 10, 11, 8, 7] [4, 6, 5, 3, 9, 10, 11, 8, 7] h h10 := frm_tr (frm_up g9 (by decide) (by decide)) (frm_wL q10 (by decide))
  have w8 : h10.L 2 8 = lN s.rb := by rw [frm_L g10 (by decide)]; exact a8
  rw [w8] at q11
  have g11 : frm [4, 6, 5, 3, 9, 10, 11, 8, 7] [4, 6, 5, 3, 9, 10, 11, 8, 7] h h11 := frm_tr (frm_up g10 (by decide) (by decide)) (frm_wL q11 (by decide))
  have w9 : h11.L 2 9 = lN s.ch := by rw [frm_L g11 (by decide)]; exact a9
  rw [w9] at q12
  have g12 : frm [4, 6, 5, 3, 9, 10, 11, 8, 7] [4, 6, 5, 3, 9, 10, 11, 8, 7] h h12 := frm_tr (frm_up g11 (by decide) (by decide)) (frm_wL q12 (by decide))
  have w10 : h12.L 2 10 = h.L 2 10 := by rw [frm_L g12 (by decide)]
  rw [w10] at q13
  refine mk_kV (wf_L q13 (wf_L q12 (wf_L q11 (wf_L q10 (wf_L q9 (wf_L q8 (wf_I q7 (wf_I q6 (wf_I q5' (wf_I q5 hw4)))))))))) ⟨?_, by rw [q13, q12, q11, q10, q9, q8, q7, q6, q5', q5, q4, q2]; rfl, ?_⟩
  · refine ⟨fun k hk => ?_, fun u v hu hv hg => ?_, ?_⟩
    · have e : h13.L 8 = va_cpy (h.L 3) (h.L 8) 0 0 40 := by rw [q13, q12, q11, q10, q9, q8, q7, q6, q5', q5, q4, q2]; rfl
      rw [e, cpy0 hk]
      exact a1 k hk
    · have e : h13.I 9 = va_cpy (h.I 4) (h.I 9) 0 0 1600 := by rw [q13, q12, q11, q10, q9, q8, q7, q6, q5', q5, q4, q2]; rfl
      rw [e, cpy0 (pr_lt hu hv)]
      exact a2 u v hu hv hg
    · have e : h13.I 11 = va_cpy (h.I 6) (h.I 11) 0 0 240 := by rw [q13, q12, q11, q10, q9, q8, q7, q6, q5', q5, q4, q2]; rfl
      rw [e]
      have x1 : h13.I 7 3 = nI s.E := by rw [q13, q12, q11, q10, q9, q8, q7, q6]; rfl
      have x2 : h13.I 7 4 = nI s.sp := by rw [q13, q12, q11, q10, q9, q8, q7]; rfl
      have x3 : h13.L 7 5 = s.hv := by rw [q13, q12, q11, q10, q9, q8]; rfl
      have x4 : h13.L 7 6 = lN s.mv := by rw [q13, q12, q11, q10, q9]; rfl
      have x5 : h13.L 7 7 = lN s.cr := by rw [q13, q12, q11, q10]; rfl
      have x6 : h13.L 7 8 = lN s.rb := by rw [q13, q12, q11]; rfl
      have x7 : h13.L 7 9 = lN s.ch := by rw [q13, q12]; rfl
      have x8 : h13.I 10 1 = nI n := by
        have y : h5.I 5 1 = nI n := by rw [q5, q4, q2]; exact b1
        rw [y] at q5'
        rw [q13, q12, q11, q10, q9, q8, q7, q6, q5']; rfl
      exact ⟨x1, x2, x3, x4, x5, x6, x7, x8, b2, fun i hi => cE_cpy (by omega) (b3 i hi)⟩
  · exact frm_tr (frm_wL q2 (by decide)) (frm_tr (frm_wI q4 (by decide)) (frm_tr (frm_wI q5 (by decide)) (frm_tr (frm_wI q5' (by decide)) (frm_tr (frm_wI q6 (by decide)) (frm_tr (frm_wI q7 (by decide)) (frm_tr (frm_wL q8 (by decide)) (frm_tr (frm_wL q9 (by decide)) (frm_tr (frm_wL q10 (by decide)) (frm_tr (frm_wL q11 (by decide)) (frm_tr (frm_wL q12 (by decide)) (frm_wL q13 (by decide))))))))))))
theorem c_becomeN (hw : zWF h) (q : CW h 7 8 9 10 11 s n en) (hf : GF s.f) (h0 : ∀ k, 40 ≤ k → h.L 3 k = 0) : zK (d + 2) m_X3_become [.ref 2, .ref 7] h (kV (fun h' => cN h' s n en ∧ h'.L 2 10 = h.L 7 10 ∧ frm [2, 4, 5, 6] [2, 3] h h')) := by
  obtain ⟨a1, a2, a3, a4, a5, a6, a7, a8, a9, b1, b2, b3⟩ := q
  refine r_X3_become_n_0 hw ⟨⟨by decide, by decide, by decide, by decide, by decide⟩, fun h2 q2 => ⟨⟨by decide, by decide, by decide, by decide, by decide⟩, fun h4 q4 => ?_⟩⟩
  rw [k0, cl_40] at q2
  rw [k0, cl1600] at q4
  have hw4 : zWF h4 := wf_I q4 (wf_L q2 hw)
  refine r_X5_become_n_0 hw4 ⟨⟨by decide, by decide, by decide, by decide, by decide⟩, fun h5 q5 h5' q5' => mk_kV (wf_I q5' (wf_I q5 hw4)) (fun h6 q6 h7 q7 h8 q8 h9 q9 h10 q10 h11 q11 h12 q12 h13 q13 => ?_)⟩
  rw [k0, cl240] at q5
  have g5 : frm [4, 6, 5, 9, 10, 11] [3, 8] h h5' := frm_tr (frm_wL q2 (by decide)) (frm_tr (frm_wI q4 (by decide)) (frm_tr (frm_wI q5 (by decide)) (frm_wI q5' (by decide))))
  have w3 : h5'.I 7 3 = nI s.E := by rw [frm_I g5 (by decide)]; exact a3
  rw [w3] at q6
  have g6 : frm [4, 6, 5, 3, 9, 10, 11, 8, 2] [4, 6, 5, 3, 9, 10, 11, 8, 2] h h6 := frm_tr (frm_up g5 (by decide) (by decide)) (frm_wI q6 (by decide))
  have w4 : h6.I 7 4 = nI s.sp := by rw [frm_I g6 (by decide)]; exact a4
  rw [w4] at q7
  have g7 : frm [4, 6, 5, 3, 9, 10, 11, 8, 2] [4, 6, 5, 3, 9, 10, 11, 8, 2] h h7 := frm_tr (frm_up g6 (by decide) (by decide)) (frm_wI q7 (by decide))
  have w5 : h7.L 7 5 = s.hv := by rw [frm_L g7 (by decide)]; exact a5
  rw [w5] at q8
  have g8 : frm [4, 6, 5, 3, 9, 10, 11, 8, 2] [4, 6, 5, 3, 9, 10, 11, 8, 2] h h8 := frm_tr (frm_up g7 (by decide) (by decide)) (frm_wL q8 (by decide))
  have w6 : h8.L 7 6 = lN s.mv := by rw [frm_L g8 (by decide)]; exact a6
  rw [w6] at q9
  have g9 : frm [4, 6, 5, 3, 9, 10, 11, 8, 2] [4, 6, 5, 3, 9, 10, 11, 8, 2] h h9 := frm_tr (frm_up g8 (by decide) (by decide)) (frm_wL q9 (by decide))
  have w7 : h9.L 7 7 = lN s.cr := by rw [frm_L g9 (by decide)]; exact a7
  rw [w7] at q10
  have g10 : frm [4, 6, 5, 3, 9, 10, 11, 8, 2] [4, 6, 5, 3, 9, 10, 11, 8, 2] h h10 := frm_tr (frm_up g9 (by decide) (by decide)) (frm_wL q10 (by decide))
  have w8 : h10.L 7 8 = lN s.rb := by rw [frm_L g10 (by decide)]; exact a8
  rw [w8] at q11
  have g11 : frm [4, 6, 5, 3, 9, 10, 11, 8, 2] [4, 6, 5, 3, 9, 10, 11, 8, 2] h h11 := frm_tr (frm_up g10 (by decide) (by decide)) (frm_wL q11 (by decide))
  have w9 : h11.L 7 9 = lN s.ch := by rw [frm_L g11 (by decide)]; exact a9
  rw [w9] at q12
  have g12 : frm [4, 6, 5, 3, 9, 10, 11, 8, 2] [4, 6, 5, 3, 9, 10, 11, 8, 2] h h12 := frm_tr (frm_up g11 (by decide) (by decide)) (frm_wL q12 (by decide))
  have w10 : h12.L 7 10 = h.L 7 10 := by rw [frm_L g12 (by decide)]
  rw [w10] at q13
  have e3 : h13.L 3 = va_cpy (h.L 8) (h.L 3) 0 0 40 := by rw [q13, q12, q11, q10, q9, q8, q7, q6, q5', q5, q4, q2]; rfl
  refine mk_kV (wf_L q13 (wf_L q12 (wf_L q11 (wf_L q10 (wf_L q9 (wf_L q8 (wf_I q7 (wf_I q6 (wf_I q5' (wf_I q5 hw4)))))))))) ⟨CW_to ?_ hf ?_, by rw [q13, q12, q11, q10, q9, q8, q7, q6, q5', q5, q4, q2]; rfl, ?_⟩
  · refine ⟨fun k hk => ?_, fun u v hu hv hg => ?_, ?_⟩
    · rw [e3, cpy0 hk]
      exact a1 k hk
    · have e : h13.I 4 = va_cpy (h.I 9) (h.I 4) 0 0 1600 := by rw [q13, q12, q11, q10, q9, q8, q7, q6, q5', q5, q4, q2]; rfl
      rw [e, cpy0 (pr_lt hu hv)]
      exact a2 u v hu hv hg
    · have e : h13.I 6 = va_cpy (h.I 11) (h.I 6) 0 0 240 := by rw [q13, q12, q11, q10, q9, q8, q7, q6, q5', q5, q4, q2]; rfl
      rw [e]
      have x1 : h13.I 2 3 = nI s.E := by rw [q13, q12, q11, q10, q9, q8, q7, q6]; rfl
      have x2 : h13.I 2 4 = nI s.sp := by rw [q13, q12, q11, q10, q9, q8, q7]; rfl
      have x3 : h13.L 2 5 = s.hv := by rw [q13, q12, q11, q10, q9, q8]; rfl
      have x4 : h13.L 2 6 = lN s.mv := by rw [q13, q12, q11, q10, q9]; rfl
      have x5 : h13.L 2 7 = lN s.cr := by rw [q13, q12, q11, q10]; rfl
      have x6 : h13.L 2 8 = lN s.rb := by rw [q13, q12, q11]; rfl
      have x7 : h13.L 2 9 = lN s.ch := by rw [q13, q12]; rfl
      have x8 : h13.I 5 1 = nI n := by
        have y : h5.I 10 1 = nI n := by rw [q5, q4, q2]; exact b1
        rw [y] at q5'
        rw [q13, q12, q11, q10, q9, q8, q7, q6, q5']; rfl
      exact ⟨x1, x2, x3, x4, x5, x6, x7, x8, b2, fun i hi => cE_cpy (by omega) (b3 i hi)⟩
  · intro k hk
    rw [e3, pk_cpy_out (by omega)]
    exact h0 k hk
  · exact frm_tr (frm_wL q2 (by decide)) (frm_tr (frm_wI q4 (by decide)) (frm_tr (frm_wI q5 (by decide)) (frm_tr (frm_wI q5' (by decide)) (frm_tr (frm_wI q6 (by decide)) (frm_tr (frm_wI q7 (by decide)) (frm_tr (frm_wL q8 (by decide)) (frm_tr (frm_wL q9 (by decide)) (frm_tr (frm_wL q10 (by decide)) (frm_tr (frm_wL q11 (by decide)) (frm_tr (frm_wL q12 (by decide)) (frm_wL q13 (by decide))))))))))))
/-- a row copied place by place -/
theorem cpyI {a b N : Nat} {P : Nat → AH → Prop} (hN : N < 2147483648) (hab : a ≠ b) (done : ∀ g, zWF g → frm [a] [] h g → (∀ j, j < N → g.I a j = h.I b j) → P N g)
    (step : ∀ i g, i < N → zWF g → (∀ g', zWF g' → g' = g.sI a i (g.I b i) → P (i + 1) g') → P i g) (hw : zWF h) : P 0 h := by
  have key : ∀ i, i ≤ N → ∀ g, zWF g → frm [a] [] h g → (∀ j, j < i → g.I a j = h.I b j) → P i g := by
    refine nat_down ?_ (fun i hi ih => ?_)
    · exact fun g hg hf hc => done g hg hf hc
    · intro g hg hf hc
      refine step i g hi hg (fun g' hg' q => ih g' hg' (frm_tr hf (frm_wI q (by simp))) (fun j hj => ?_))
      rw [q, AH.sI_I]
      by_cases e : j = i
      · subst e
        rw [va_up_self, frm_I hf (by simp; exact fun z => hab z.symm)]
      · rw [va_up_ne _ _ e]
        exact hc j (by omega)
  exact key 0 (Nat.zero_le _) h hw frm_rf (fun j hj => absurd hj (Nat.not_lt_zero j))
theorem cpyL {a b N : Nat} {P : Nat → AH → Prop} (hN : N < 2147483648) (hab : a ≠ b) (done : ∀ g, zWF g → frm [] [a] h g → (∀ j, j < N → g.L a j = h.L b j) → (∀ j, N ≤ j → g.L a j = h.L a j) → P N g)
    (step : ∀ i g, i < N → zWF g → (∀ g', zWF g' → g' = g.sL a i (g.L b i) → P (i + 1) g') → P i g) (hw : zWF h) : P 0 h := by
  have key : ∀ i, i ≤ N → ∀ g, zWF g → frm [] [a] h g → (∀ j, j < i → g.L a j = h.L b j) → (∀ j, N ≤ j → g.L a j = h.L a j) → P i g := by
    refine nat_down ?_ (fun i hi ih => ?_)
    · exact fun g hg hf hc ho => done g hg hf hc ho
    · intro g hg hf hc ho
      refine step i g hi hg (fun g' hg' q => ih g' hg' (frm_tr hf (frm_wL q (by simp))) (fun j hj => ?_) (fun j hj => ?_))
      · rw [q, AH.sL_L]
        by_cases e : j = i
        · subst e
          rw [va_up_self, frm_L hf (by simp; exact fun z => hab z.symm)]
        · rw [va_up_ne _ _ e]
          exact hc j (by omega)
      · rw [q, AH.sL_L, va_up_ne _ _ (by omega)]
        exact ho j hj
  exact key 0 (Nat.zero_le _) h hw frm_rf (fun j hj => absurd hj (Nat.not_lt_zero j)) (fun j _ => rfl)
theorem vi187 {i : Nat} (h : i < 187) : vp_in (nI i) 187 := vp_in_nI h (by decide)
theorem CW_frm {h' : AH} {SI SL : List Nat} {a nr wr pa cl : Nat} (hf : frm SI SL h h') (q : CW h a nr wr pa cl s n en) (h1 : ∀ k ∈ [a, wr, pa, cl], k ∉ SI) (h2 : ∀ k ∈ [a, nr], k ∉ SL) : CW h' a nr wr pa cl s n en := by
  unfold CW at *
  rw [frm_I hf (h1 a (by simp)), frm_I hf (h1 wr (by simp)), frm_I hf (h1 pa (by simp)), frm_I hf (h1 cl (by simp)), frm_L hf (h2 a (by simp)), frm_L hf (h2 nr (by simp))]
  exact q
end IMAGE
