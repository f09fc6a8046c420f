/-! THE IMAGE -/
def CW (h : AH) (a nr wr pa cl : Nat) (s : NS) (n : Nat) (en : Nat → Ent) : Prop := (∀ k, k < 40 → h.L nr k = s.f k) ∧ (∀ u v, u < 40 → v < 40 → gb (s.f u) v = true → h.I wr (pr u v) = s.w (pr u v)) ∧ h.I a 3 = nI s.E ∧ h.I a 4 = nI s.sp ∧ h.L a 5 = s.hv ∧ h.L a 6 = lN s.mv ∧ h.L a 7 = lN s.cr ∧ h.L a 8 = lN s.rb ∧ h.L a 9 = lN s.ch ∧ h.I pa 1 = nI n ∧ n ≤ 60 ∧ ∀ i, i < n → cE (h.I cl) i (en i)
def MW (h : AH) (nr wr sr hs : Nat) (s : NS) (n : Nat) (en : Nat → Ent) : Prop := (∀ k, k < 40 → h.L nr k = s.f k) ∧ (∀ u v, u < 40 → v < 40 → gb (s.f u) v = true → h.I wr (pr u v) = s.w (pr u v)) ∧ h.I sr 5 = nI s.E ∧ h.I sr 0 = nI s.sp ∧ h.L 53 hs = s.hv ∧ h.I sr 1 = nI s.mv ∧ h.I sr 2 = nI s.cr ∧ h.I sr 3 = nI s.rb ∧ h.I sr 4 = nI s.ch ∧ h.I sr 6 = nI n ∧ n ≤ 60 ∧ ∀ i, i < n → mE (h.I sr) i (en i)
def IMG (c : Nat) (h : AH) : Prop := (h.I 1 2 = nI 0 ∧ h.I 53 10 = nI 0) ∨ (h.I 1 2 = nI 1 ∧ h.I 53 10 = nI 1 ∧ ∃ s n en, CW h 7 8 9 10 11 s n en ∧ MW h 59 57 56 8 s n en ∧ num c s n en ∧ h.L 7 10 = h.L 53 9)
/-- only the image is another -/
def imf (h h' : AH) : Prop := frm [1, 7, 9, 10, 11, 53, 56, 57] [7, 8, 53, 59] h h' ∧ (∀ j, j ≠ 2 → h'.I 1 j = h.I 1 j) ∧ (∀ j, j ≠ 10 → h'.I 53 j = h.I 53 j) ∧ (∀ j, j ≠ 8 → j ≠ 9 → h'.L 53 j = h.L 53 j)
/-- only the nets are others -/
def unf (h h' : AH) : Prop := frm [2, 4, 5, 6, 54, 55] [2, 3, 53, 58] h h' ∧ ∀ j, j ≠ 6 → j ≠ 7 → h'.L 53 j = h.L 53 j
theorem GF_0 {f : Nat → Int64} (hf : GF f) {k : Nat} (hk : 40 ≤ k) : f k = 0 := gb_ext (fun i _ => by
  rw [gb_0]
  cases hc : gb (f k) i with
  | false => rfl
  | true => exact absurd (hf.2.2 k i hc).1 (by omega))
theorem cl1600 : (nI 1600).toNatClampNeg = 1600 := nI_clamp (by decide)
theorem cl240 : (nI 240).toNatClampNeg = 240 := nI_clamp (by decide)
theorem cl_40 : (nI 40).toNatClampNeg = 40 := nI_clamp (by decide)
theorem cpy0 {α : Type} {f g : Nat → α} {n j : Nat} (h : j < n) : va_cpy f g 0 0 n j = f j := by
  rw [pk_cpy_in (Nat.zero_le _) (by omega)]; congr 1; omega
section IMAGE
variable {d : Nat} {h : AH} {s : NS} {n c : Nat} {en : Nat → Ent}
theorem CW_of (q : cN h s n en) : CW h 2 3 4 5 6 s n en := by
  obtain ⟨⟨a1, a2, a3, a4, a5, a6, a7, a8, a9⟩, b1, b2, b3⟩ := q
  exact ⟨fun k _ => by rw [a1], a2, a3, a4, a5, a6, a7, a8, a9, b1, b2, b3⟩
theorem CW_to (q : CW h 2 3 4 5 6 s n en) (hf : GF s.f) (h0 : ∀ k, 40 ≤ k → h.L 3 k = 0) : cN h s n en := by
  obtain ⟨a1, a2, a3, a4, a5, a6, a7, a8, a9, b1, b2, b3⟩ := q
  refine ⟨⟨?_, a2, a3, a4, a5, a6, a7, a8, a9⟩, b1, b2, b3⟩
  funext k
  rcases Nat.lt_or_ge k 40 with z | z
  · exact a1 k z
  · rw [h0 k z, GF_0 hf z]
theorem MW_of (q : mN h s n en) : MW h 58 55 54 6 s n en := by
  obtain ⟨⟨a1, a2, a3, a4, a5, a6, a7, a8, a9⟩, b1, b2, b3⟩ := q
  exact ⟨fun k _ => by rw [a1], a2, a3, a4, a5, a6, a7, a8, a9, b1, b2, b3⟩
theorem MW_to (q : MW h 58 55 54 6 s n en) (hf : GF s.f) (h0 : ∀ k, 40 ≤ k → h.L 58 k = 0) : mN h s n en := by
  obtain ⟨a1, a2, a3, a4, a5, a6, a7, a8, a9, b1, b2, b3⟩ := q
  refine ⟨⟨?_, a2, a3, a4, a5, a6, a7, a8, a9⟩, b1, b2, b3⟩
  funext k
  rcases Nat.lt_or_ge k 40 with z | z
  · exact a1 k z
  · rw [h0 k z, GF_0 hf z]
theorem cE_cpy {I J : Nat → Int32} {i : Nat} {x : Ent} (hi : i < 60) (q : cE I i x) : cE (va_cpy I J 0 0 240) i x := by
  obtain ⟨a1, a2, a3, a4⟩ := q
  exact ⟨by rw [cpy0 (by omega)]; exact a1, by rw [cpy0 (by omega)]; exact a2, by rw [cpy0 (by omega)]; exact a3, by rw [cpy0 (by omega)]; exact a4⟩
theorem c_becomeK (hw : zWF h) (q : CW h 2 3 4 5 6 s n en) : zK (d + 2) m_X3_become [.ref 7, .ref 2] h (kV (fun h' => CW h' 7 8 9 10 11 s n en ∧ h'.L 7 10 = h.L 2 10 ∧ frm [7, 9, 10, 11] [7, 8] h h')) := by
  obtain ⟨a1, a2, a3, a4, a5, a6, a7, a8, a9, b1, b2, b3⟩ := q
  refine r_X3_become_k_0 hw ⟨⟨by decide, by decide, by decide, by decide, by decide⟩, fun h2 q2 => ⟨⟨by decide, by decide, by decide, by decide, by decide⟩, fun h4 q4 => ?_⟩⟩
  rw [k0, cl_40] at q2
  rw [k0, cl1600] at q4
  have hw4 : zWF h4 := wf_I q4 (wf_L q2 hw)
  refine r_X5_become_k_0 hw4 ⟨⟨by decide, by decide, by decide, by decide, by decide⟩, fun h5 q5 h5' q5' => mk_kV (wf_I q5' (wf_I q5 hw4)) (fun h6 q6 h7 q7 h8 q8 h9 q9 h10 q10 h11 q11 h12 q12 h13 q13 => ?_)⟩
  rw [k0, cl240] at q5
  have g5 : frm [4, 6, 5, 9, 10, 11] [3, 8] h h5' := frm_tr (frm_wL q2 (by decide)) (frm_tr (frm_wI q4 (by decide)) (frm_tr (frm_wI q5 (by decide)) (frm_wI q5' (by decide))))
  have w3 : h5'.I 2 3 = nI s.E := by rw [frm_I g5 (by decide)]; exact a3
  rw [w3] at q6
  have g6 : frm [4, 6, 5, 3, 9, 10, 11, 8, 7] [4, 6, 5, 3, 9, 10, 11, 8, 7] h h6 := frm_tr (frm_up g5 (by decide) (by decide)) (frm_wI q6 (by decide))
  have w4 : h6.I 2 4 = nI s.sp := by rw [frm_I g6 (by decide)]; exact a4
  rw [w4] at q7
  have g7 : frm [4, 6, 5, 3, 9, 10, 11, 8, 7] [4, 6, 5, 3, 9, 10, 11, 8, 7] h h7 := frm_tr (frm_up g6 (by decide) (by decide)) (frm_wI q7 (by decide))
  have w5 : h7.L 2 5 = s.hv := by rw [frm_L g7 (by decide)]; exact a5
  rw [w5] at q8
  have g8 : frm [4, 6, 5, 3, 9, 10, 11, 8, 7] [4, 6, 5, 3, 9, 10, 11, 8, 7] h h8 := frm_tr (frm_up g7 (by decide) (by decide)) (frm_wL q8 (by decide))
  have w6 : h8.L 2 6 = lN s.mv := by rw [frm_L g8 (by decide)]; exact a6
  rw [w6] at q9
  have g9 : frm [4, 6, 5, 3, 9, 10, 11, 8, 7] [4, 6, 5, 3, 9, 10, 11, 8, 7] h h9 := frm_tr (frm_up g8 (by decide) (by decide)) (frm_wL q9 (by decide))
  have w7 : h9.L 2 7 = lN s.cr := by rw [frm_L g9 (by decide)]; exact a7
  rw [w7] at q10
  have g10 : frm [4, 6, 5, 3, 9, 10, 11, 8, 7] [4, 6, 5, 3, 9, 10, 11, 8, 7] h h10 := frm_tr (frm_up g9 (by decide) (by decide)) (frm_wL q10 (by decide))
  have w8 : h10.L 2 8 = lN s.rb := by rw [frm_L g10 (by decide)]; exact a8
  rw [w8] at q11
  have g11 : frm [4, 6, 5, 3, 9, 10, 11, 8, 7] [4, 6, 5, 3, 9, 10, 11, 8, 7] h h11 := frm_tr (frm_up g10 (by decide) (by decide)) (frm_wL q11 (by decide))
  have w9 : h11.L 2 9 = lN s.ch := by rw [frm_L g11 (by decide)]; exact a9
  rw [w9] at q12
  have g12 : frm [4, 6, 5, 3, 9, 10, 11, 8, 7] [4, 6, 5, 3, 9, 10, 11, 8, 7] h h12 := frm_tr (frm_up g11 (by decide) (by decide)) (frm_wL q12 (by decide))
  have w10 : h12.L 2 10 = h.L 2 10 := by rw [frm_L g12 (by decide)]
  rw [w10] at q13
  refine mk_kV (wf_L q13 (wf_L q12 (wf_L q11 (wf_L q10 (wf_L q9 (wf_L q8 (wf_I q7 (wf_I q6 (wf_I q5' (wf_I q5 hw4)))))))))) ⟨?_, by rw [q13, q12, q11, q10, q9, q8, q7, q6, q5', q5, q4, q2]; rfl, ?_⟩
  · refine ⟨fun k hk => ?_, fun u v hu hv hg => ?_, ?_⟩
    · have e : h13.L 8 = va_cpy (h.L 3) (h.L 8) 0 0 40 := by rw [q13, q12, q11, q10, q9, q8, q7, q6, q5', q5, q4, q2]; rfl
      rw [e, cpy0 hk]
      exact a1 k hk
    · have e : h13.I 9 = va_cpy (h.I 4) (h.I 9) 0 0 1600 := by rw [q13, q12, q11, q10, q9, q8, q7, q6, q5', q5, q4, q2]; rfl
      rw [e, cpy0 (pr_lt hu hv)]
      exact a2 u v hu hv hg
    · have e : h13.I 11 = va_cpy (h.I 6) (h.I 11) 0 0 240 := by rw [q13, q12, q11, q10, q9, q8, q7, q6, q5', q5, q4, q2]; rfl
      rw [e]
      have x1 : h13.I 7 3 = nI s.E := by rw [q13, q12, q11, q10, q9, q8, q7, q6]; rfl
      have x2 : h13.I 7 4 = nI s.sp := by rw [q13, q12, q11, q10, q9, q8, q7]; rfl
      have x3 : h13.L 7 5 = s.hv := by rw [q13, q12, q11, q10, q9, q8]; rfl
      have x4 : h13.L 7 6 = lN s.mv := by rw [q13, q12, q11, q10, q9]; rfl
      have x5 : h13.L 7 7 = lN s.cr := by rw [q13, q12, q11, q10]; rfl
      have x6 : h13.L 7 8 = lN s.rb := by rw [q13, q12, q11]; rfl
      have x7 : h13.L 7 9 = lN s.ch := by rw [q13, q12]; rfl
      have x8 : h13.I 10 1 = nI n := by
        have y : h5.I 5 1 = nI n := by rw [q5, q4, q2]; exact b1
        rw [y] at q5'
        rw [q13, q12, q11, q10, q9, q8, q7, q6, q5']; rfl
      exact ⟨x1, x2, x3, x4, x5, x6, x7, x8, b2, fun i hi => cE_cpy (by omega) (b3 i hi)⟩
  · exact frm_tr (frm_wL q2 (by decide)) (frm_tr (frm_wI q4 (by decide)) (frm_tr (frm_wI q5 (by decide)) (frm_tr (frm_wI q5' (by decide)) (frm_tr (frm_wI q6 (by decide)) (frm_tr (frm_wI q7 (by decide)) (frm_tr (frm_wL q8 (by decide)) (frm_tr (frm_wL q9 (by decide)) (frm_tr (frm_wL q10 (by decide)) (frm_tr (frm_wL q11 (by decide)) (frm_tr (frm_wL q12 (by decide)) (frm_wL q13 (by decide))))))))))))
theorem c_becomeN (hw : zWF h) (q : CW h 7 8 9 10 11 s n en) (hf : GF s.f) (h0 : ∀ k, 40 ≤ k → h.L 3 k = 0) : zK (d + 2) m_X3_become [.ref 2, .ref 7] h (kV (fun h' => cN h' s n en ∧ h'.L 2 10 = h.L 7 10 ∧ frm [2, 4, 5, 6] [2, 3] h h')) := by
  obtain ⟨a1, a2, a3, a4, a5, a6, a7, a8, a9, b1, b2, b3⟩ := q
  refine r_X3_become_n_0 hw ⟨⟨by decide, by decide, by decide, by decide, by decide⟩, fun h2 q2 => ⟨⟨by decide, by decide, by decide, by decide, by decide⟩, fun h4 q4 => ?_⟩⟩
  rw [k0, cl_40] at q2
  rw [k0, cl1600] at q4
  have hw4 : zWF h4 := wf_I q4 (wf_L q2 hw)
  refine r_X5_become_n_0 hw4 ⟨⟨by decide, by decide, by decide, by decide, by decide⟩, fun h5 q5 h5' q5' => mk_kV (wf_I q5' (wf_I q5 hw4)) (fun h6 q6 h7 q7 h8 q8 h9 q9 h10 q10 h11 q11 h12 q12 h13 q13 => ?_)⟩
  rw [k0, cl240] at q5
  have g5 : frm [4, 6, 5, 9, 10, 11] [3, 8] h h5' := frm_tr (frm_wL q2 (by decide)) (frm_tr (frm_wI q4 (by decide)) (frm_tr (frm_wI q5 (by decide)) (frm_wI q5' (by decide))))
  have w3 : h5'.I 7 3 = nI s.E := by rw [frm_I g5 (by decide)]; exact a3
  rw [w3] at q6
  have g6 : frm [4, 6, 5, 3, 9, 10, 11, 8, 2] [4, 6, 5, 3, 9, 10, 11, 8, 2] h h6 := frm_tr (frm_up g5 (by decide) (by decide)) (frm_wI q6 (by decide))
  have w4 : h6.I 7 4 = nI s.sp := by rw [frm_I g6 (by decide)]; exact a4
  rw [w4] at q7
  have g7 : frm [4, 6, 5, 3, 9, 10, 11, 8, 2] [4, 6, 5, 3, 9, 10, 11, 8, 2] h h7 := frm_tr (frm_up g6 (by decide) (by decide)) (frm_wI q7 (by decide))
  have w5 : h7.L 7 5 = s.hv := by rw [frm_L g7 (by decide)]; exact a5
  rw [w5] at q8
  have g8 : frm [4, 6, 5, 3, 9, 10, 11, 8, 2] [4, 6, 5, 3, 9, 10, 11, 8, 2] h h8 := frm_tr (frm_up g7 (by decide) (by decide)) (frm_wL q8 (by decide))
  have w6 : h8.L 7 6 = lN s.mv := by rw [frm_L g8 (by decide)]; exact a6
  rw [w6] at q9
  have g9 : frm [4, 6, 5, 3, 9, 10, 11, 8, 2] [4, 6, 5, 3, 9, 10, 11, 8, 2] h h9 := frm_tr (frm_up g8 (by decide) (by decide)) (frm_wL q9 (by decide))
  have w7 : h9.L 7 7 = lN s.cr := by rw [frm_L g9 (by decide)]; exact a7
  rw [w7] at q10
  have g10 : frm [4, 6, 5, 3, 9, 10, 11, 8, 2] [4, 6, 5, 3, 9, 10, 11, 8, 2] h h10 := frm_tr (frm_up g9 (by decide) (by decide)) (frm_wL q10 (by decide))
  have w8 : h10.L 7 8 = lN s.rb := by rw [frm_L g10 (by decide)]; exact a8
  rw [w8] at q11
  have g11 : frm [4, 6, 5, 3, 9, 10, 11, 8, 2] [4, 6, 5, 3, 9, 10, 11, 8, 2] h h11 := frm_tr (frm_up g10 (by decide) (by decide)) (frm_wL q11 (by decide))
  have w9 : h11.L 7 9 = lN s.ch := by rw [frm_L g11 (by decide)]; exact a9
  rw [w9] at q12
  have g12 : frm [4, 6, 5, 3, 9, 10, 11, 8, 2] [4, 6, 5, 3, 9, 10, 11, 8, 2] h h12 := frm_tr (frm_up g11 (by decide) (by decide)) (frm_wL q12 (by decide))
  have w10 : h12.L 7 10 = h.L 7 10 := by rw [frm_L g12 (by decide)]
  rw [w10] at q13
  have e3 : h13.L 3 = va_cpy (h.L 8) (h.L 3) 0 0 40 := by rw [q13, q12, q11, q10, q9, q8, q7, q6, q5', q5, q4, q2]; rfl
  refine mk_kV (wf_L q13 (wf_L q12 (wf_L q11 (wf_L q10 (wf_L q9 (wf_L q8 (wf_I q7 (wf_I q6 (wf_I q5' (wf_I q5 hw4)))))))))) ⟨CW_to ?_ hf ?_, by rw [q13, q12, q11, q10, q9, q8, q7, q6, q5', q5, q4, q2]; rfl, ?_⟩
  · refine ⟨fun k hk => ?_, fun u v hu hv hg => ?_, ?_⟩
    · rw [e3, cpy0 hk]
      exact a1 k hk
    · have e : h13.I 4 = va_cpy (h.I 9) (h.I 4) 0 0 1600 := by rw [q13, q12, q11, q10, q9, q8, q7, q6, q5', q5, q4, q2]; rfl
      rw [e, cpy0 (pr_lt hu hv)]
      exact a2 u v hu hv hg
    · have e : h13.I 6 = va_cpy (h.I 11) (h.I 6) 0 0 240 := by rw [q13, q12, q11, q10, q9, q8, q7, q6, q5', q5, q4, q2]; rfl
      rw [e]
      have x1 : h13.I 2 3 = nI s.E := by rw [q13, q12, q11, q10, q9, q8, q7, q6]; rfl
      have x2 : h13.I 2 4 = nI s.sp := by rw [q13, q12, q11, q10, q9, q8, q7]; rfl
      have x3 : h13.L 2 5 = s.hv := by rw [q13, q12, q11, q10, q9, q8]; rfl
      have x4 : h13.L 2 6 = lN s.mv := by rw [q13, q12, q11, q10, q9]; rfl
      have x5 : h13.L 2 7 = lN s.cr := by rw [q13, q12, q11, q10]; rfl
      have x6 : h13.L 2 8 = lN s.rb := by rw [q13, q12, q11]; rfl
      have x7 : h13.L 2 9 = lN s.ch := by rw [q13, q12]; rfl
      have x8 : h13.I 5 1 = nI n := by
        have y : h5.I 10 1 = nI n := by rw [q5, q4, q2]; exact b1
        rw [y] at q5'
        rw [q13, q12, q11, q10, q9, q8, q7, q6, q5']; rfl
      exact ⟨x1, x2, x3, x4, x5, x6, x7, x8, b2, fun i hi => cE_cpy (by omega) (b3 i hi)⟩
  · intro k hk
    rw [e3, pk_cpy_out (by omega)]
    exact h0 k hk
  · exact frm_tr (frm_wL q2 (by decide)) (frm_tr (frm_wI q4 (by decide)) (frm_tr (frm_wI q5 (by decide)) (frm_tr (frm_wI q5' (by decide)) (frm_tr (frm_wI q6 (by decide)) (frm_tr (frm_wI q7 (by decide)) (frm_tr (frm_wL q8 (by decide)) (frm_tr (frm_wL q9 (by decide)) (frm_tr (frm_wL q10 (by decide)) (frm_tr (frm_wL q11 (by decide)) (frm_tr (frm_wL q12 (by decide)) (frm_wL q13 (by decide))))))))))))
/-- a row copied place by place -/
theorem cpyI {a b N : Nat} {P : Nat → AH → Prop} (hN : N < 2147483648) (hab : a ≠ b) (done : ∀ g, zWF g → frm [a] [] h g → (∀ j, j < N → g.I a j = h.I b j) → P N g)
    (step : ∀ i g, i < N → zWF g → (∀ g', zWF g' → g' = g.sI a i (g.I b i) → P (i + 1) g') → P i g) (hw : zWF h) : P 0 h := by
  have key : ∀ i, i ≤ N → ∀ g, zWF g → frm [a] [] h g → (∀ j, j < i → g.I a j = h.I b j) → P i g := by
    refine nat_down ?_ (fun i hi ih => ?_)
    · exact fun g hg hf hc => done g hg hf hc
    · intro g hg hf hc
      refine step i g hi hg (fun g' hg' q => ih g' hg' (frm_tr hf (frm_wI q (by simp))) (fun j hj => ?_))
      rw [q, AH.sI_I]
      by_cases e : j = i
      · subst e
        rw [va_up_self, frm_I hf (by simp; exact fun z => hab z.symm)]
      · rw [va_up_ne _ _ e]
        exact hc j (by omega)
  exact key 0 (Nat.zero_le _) h hw frm_rf (fun j hj => absurd hj (Nat.not_lt_zero j))
theorem cpyL {a b N : Nat} {P : Nat → AH → Prop} (hN : N < 2147483648) (hab : a ≠ b) (done : ∀ g, zWF g → frm [] [a] h g → (∀ j, j < N → g.L a j = h.L b j) → (∀ j, N ≤ j → g.L a j = h.L a j) → P N g)
    (step : ∀ i g, i < N → zWF g → (∀ g', zWF g' → g' = g.sL a i (g.L b i) → P (i + 1) g') → P i g) (hw : zWF h) : P 0 h := by
  have key : ∀ i, i ≤ N → ∀ g, zWF g → frm [] [a] h g → (∀ j, j < i → g.L a j = h.L b j) → (∀ j, N ≤ j → g.L a j = h.L a j) → P i g := by
    refine nat_down ?_ (fun i hi ih => ?_)
    · exact fun g hg hf hc ho => done g hg hf hc ho
    · intro g hg hf hc ho
      refine step i g hi hg (fun g' hg' q => ih g' hg' (frm_tr hf (frm_wL q (by simp))) (fun j hj => ?_) (fun j hj => ?_))
      · rw [q, AH.sL_L]
        by_cases e : j = i
        · subst e
          rw [va_up_self, frm_L hf (by simp; exact fun z => hab z.symm)]
        · rw [va_up_ne _ _ e]
          exact hc j (by omega)
      · rw [q, AH.sL_L, va_up_ne _ _ (by omega)]
        exact ho j hj
  exact key 0 (Nat.zero_le _) h hw frm_rf (fun j hj => absurd hj (Nat.not_lt_zero j)) (fun j _ => rfl)
theorem vi187 {i : Nat} (h : i < 187) : vp_in (nI i) 187 := vp_in_nI h (by decide)
theorem mE_cong {I J : Nat → Int32} {i : Nat} {x : Ent} (hi : i < 60) (hIJ : ∀ j, j < 187 → J j = I j) (q : mE I i x) : mE J i x :=
  ⟨(hIJ _ (by omega)).trans q.1, (hIJ _ (by omega)).trans q.2.1, (hIJ _ (by omega)).trans q.2.2⟩
theorem m_image (hw : zWF h) (q : MW h 58 55 54 6 s n en) : zK (d + 1) m_X11_image [.ref 53] h (kI (fun x h' => x = nI s.E ∧ MW h' 59 57 56 8 s n en ∧ h'.L 53 9 = h.L 53 7 ∧ h'.I 53 10 = nI 1 ∧ frm [53, 56, 57] [53, 59] h h' ∧ (∀ j, j ≠ 10 → h'.I 53 j = h.I 53 j) ∧ (∀ j, j ≠ 8 → j ≠ 9 → h'.L 53 j = h.L 53 j))) := by
  obtain ⟨a1, a2, a3, a4, a5, a6, a7, a8, a9, b1, b2, b3⟩ := q
  refine r_X11_image_0 hw ?_
  refine cpyI (a := 56) (b := 54) (N := 187) (P := fun i g => zQ none m_X11_image (d + 1) 2 [(0, .ref 53), (1, .int (nI i))] [] g _) (by decide) (by decide) ?_ ?_ hw
  rotate_left
  · intro i g hi hg ih
    refine r_X11_image_2 _ hg ⟨fun z => absurd ((nI_leE (by decide) (by omega)).mp z) (by omega), fun _ => ⟨vi187 hi, vi187 hi, fun g' z => ?_⟩⟩
    rw [cl_n hi (by decide)] at z
    rw [nI_add]
    exact ih g' (wf_I z hg) z
  intro g1 hg1 f1 c1
  refine r_X11_image_2 _ hg1 ⟨fun _ => ?_, fun z => absurd ((nI_leE (by decide) (by decide)).mpr (Nat.le_refl _)) z⟩
  refine cpyI (h := g1) (a := 57) (b := 55) (N := 1600) (P := fun i g => zQ none m_X11_image (d + 1) 29 [(0, .ref 53), (1, .int (nI i))] [] g _) (by decide) (by decide) ?_ ?_ hg1
  rotate_left
  · intro i g hi hg ih
    refine r_X11_image_29 _ hg ⟨fun z => absurd ((nI_leE (by decide) (by omega)).mp z) (by omega), fun _ => ⟨vp_in_nI hi (by decide), vp_in_nI hi (by decide), fun g' z => ?_⟩⟩
    rw [cl_n hi (by decide)] at z
    rw [nI_add]
    exact ih g' (wf_I z hg) z
  intro g2 hg2 f2 c2
  refine r_X11_image_29 _ hg2 ⟨fun _ => ?_, fun z => absurd ((nI_leE (by decide) (by decide)).mpr (Nat.le_refl _)) z⟩
  refine cpyL (h := g2) (a := 59) (b := 58) (N := 40) (P := fun i g => zQ none m_X11_image (d + 1) 56 [(0, .ref 53), (1, .int (nI i))] [] g _) (by decide) (by decide) ?_ ?_ hg2
  rotate_left
  · intro i g hi hg ih
    refine r_X11_image_56 _ hg ⟨fun z => absurd z (n40 hi), fun _ => ⟨vi40 hi, vi40 hi, fun g' z => ?_⟩⟩
    rw [cl40 hi] at z
    rw [nI_add]
    exact ih g' (wf_L z hg) z
  intro g3 hg3 f3 c3 _
  refine r_X11_image_56 _ hg3 ⟨fun _ h2 q2 h3 q3 h4 q4 => ⟨v5, ?_⟩, fun z => absurd e40 z⟩
  have fr : frm [56, 57] [59] h g3 := frm_tr (frm_up f1 (by decide) (by decide)) (frm_tr (frm_up f2 (by decide) (by decide)) (frm_up f3 (by decide) (by decide)))
  have x54 : h4.I 54 = h.I 54 := by rw [q4, q3, q2]; exact frm_I fr (by decide)
  have x56 : ∀ j, j < 187 → h4.I 56 j = h.I 54 j := fun j hj => by
    have : h4.I 56 = g3.I 56 := by rw [q4, q3, q2]; rfl
    rw [this, frm_I f3 (by decide), frm_I f2 (by decide)]; exact c1 j hj
  have x57 : ∀ j, j < 1600 → h4.I 57 j = h.I 55 j := fun j hj => by
    have : h4.I 57 = g3.I 57 := by rw [q4, q3, q2]; rfl
    rw [this, frm_I f3 (by decide), c2 j hj, frm_I f1 (by decide)]
  have x59 : ∀ j, j < 40 → h4.L 59 j = h.L 58 j := fun j hj => by
    have : h4.L 59 = g3.L 59 := by rw [q4, q3, q2]; rfl
    rw [this, c3 j hj, frm_L f2 (by decide), frm_L f1 (by decide)]
  have x53 : h4.L 53 = va_up (va_up (h.L 53) 8 (h.L 53 6)) 9 (h.L 53 7) := by
    have : g3.L 53 = h.L 53 := frm_L fr (by decide)
    rw [q4, q3, q2, ← this]; rfl
  refine mk_kI (wf_I q4 (wf_L q3 (wf_L q2 hg3))) ⟨by rw [k5, x54]; exact a3, ⟨?_, ?_, by rw [x56 _ (by decide)]; exact a3, by rw [x56 _ (by decide)]; exact a4, by rw [x53]; exact a5, by rw [x56 _ (by decide)]; exact a6, by rw [x56 _ (by decide)]; exact a7, by rw [x56 _ (by decide)]; exact a8, by rw [x56 _ (by decide)]; exact a9, by rw [x56 _ (by decide)]; exact b1, b2, ?_⟩, by rw [x53]; rfl, by rw [q4]; rfl, frm_tr (frm_up fr (by decide) (by decide)) (frm_tr (frm_wL q2 (by decide)) (frm_tr (frm_wL q3 (by decide)) (frm_wI q4 (by decide)))), ?_, ?_⟩
  · intro k hk; rw [x59 k hk]; exact a1 k hk
  · intro u v hu hv hg; rw [x57 _ (pr_lt hu hv)]; exact a2 u v hu hv hg
  · intro i hi; exact mE_cong (by omega) x56 (b3 i hi)
  · intro j hj
    have : g3.I 53 = h.I 53 := frm_I fr (by decide)
    rw [q4, AH.sI_I, va_up_ne _ _ hj, q3, q2, ← this]; rfl
  · intro j h8 h9
    rw [x53, va_up_ne _ _ h9, va_up_ne _ _ h8]
theorem m_undo (hw : zWF h) (q : MW h 59 57 56 8 s n en) (hf : GF s.f) (h0 : ∀ k, 40 ≤ k → h.L 58 k = 0) (h10 : h.I 53 10 = nI 1) : zK (d + 1) m_X11_undo [.ref 53] h (kI (fun x h' => x = nI s.E ∧ mN h' s n en ∧ h'.L 53 7 = h.L 53 9 ∧ frm [54, 55] [53, 58] h h' ∧ (∀ j, j ≠ 6 → j ≠ 7 → h'.L 53 j = h.L 53 j))) := by
  obtain ⟨a1, a2, a3, a4, a5, a6, a7, a8, a9, b1, b2, b3⟩ := q
  refine r_X11_undo_0 hw ⟨fun _ => ?_, fun z => absurd (h10.symm.trans z) i1_ne0⟩
  refine cpyI (a := 54) (b := 56) (N := 187) (P := fun i g => zQ none m_X11_undo (d + 1) 12 [(0, .ref 53), (1, .int (nI i))] [] g _) (by decide) (by decide) ?_ ?_ hw
  rotate_left
  · intro i g hi hg ih
    refine r_X11_undo_12 _ hg ⟨fun z => absurd ((nI_leE (by decide) (by omega)).mp z) (by omega), fun _ => ⟨vi187 hi, vi187 hi, fun g' z => ?_⟩⟩
    rw [cl_n hi (by decide)] at z
    rw [nI_add]
    exact ih g' (wf_I z hg) z
  intro g1 hg1 f1 c1
  refine r_X11_undo_12 _ hg1 ⟨fun _ => ?_, fun z => absurd ((nI_leE (by decide) (by decide)).mpr (Nat.le_refl _)) z⟩
  refine cpyI (h := g1) (a := 55) (b := 57) (N := 1600) (P := fun i g => zQ none m_X11_undo (d + 1) 39 [(0, .ref 53), (1, .int (nI i))] [] g _) (by decide) (by decide) ?_ ?_ hg1
  rotate_left
  · intro i g hi hg ih
    refine r_X11_undo_39 _ hg ⟨fun z => absurd ((nI_leE (by decide) (by omega)).mp z) (by omega), fun _ => ⟨vp_in_nI hi (by decide), vp_in_nI hi (by decide), fun g' z => ?_⟩⟩
    rw [cl_n hi (by decide)] at z
    rw [nI_add]
    exact ih g' (wf_I z hg) z
  intro g2 hg2 f2 c2
  refine r_X11_undo_39 _ hg2 ⟨fun _ => ?_, fun z => absurd ((nI_leE (by decide) (by decide)).mpr (Nat.le_refl _)) z⟩
  refine cpyL (h := g2) (a := 58) (b := 59) (N := 40) (P := fun i g => zQ none m_X11_undo (d + 1) 66 [(0, .ref 53), (1, .int (nI i))] [] g _) (by decide) (by decide) ?_ ?_ hg2
  rotate_left
  · intro i g hi hg ih
    refine r_X11_undo_66 _ hg ⟨fun z => absurd z (n40 hi), fun _ => ⟨vi40 hi, vi40 hi, fun g' z => ?_⟩⟩
    rw [cl40 hi] at z
    rw [nI_add]
    exact ih g' (wf_L z hg) z
  intro g3 hg3 f3 c3 o3
  refine r_X11_undo_66 _ hg3 ⟨fun _ h2 q2 h3 q3 => ⟨v5, ?_⟩, fun z => absurd e40 z⟩
  have fr : frm [54, 55] [58] h g3 := frm_tr (frm_up f1 (by decide) (by decide)) (frm_tr (frm_up f2 (by decide) (by decide)) (frm_up f3 (by decide) (by decide)))
  have x54 : ∀ j, j < 187 → h3.I 54 j = h.I 56 j := fun j hj => by
    have : h3.I 54 = g3.I 54 := by rw [q3, q2]; rfl
    rw [this, frm_I f3 (by decide), frm_I f2 (by decide)]; exact c1 j hj
  have x55 : ∀ j, j < 1600 → h3.I 55 j = h.I 57 j := fun j hj => by
    have : h3.I 55 = g3.I 55 := by rw [q3, q2]; rfl
    rw [this, frm_I f3 (by decide), c2 j hj, frm_I f1 (by decide)]
  have y58 : h3.L 58 = g3.L 58 := by rw [q3, q2]; rfl
  have x58 : ∀ j, j < 40 → h3.L 58 j = h.L 59 j := fun j hj => by
    rw [y58, c3 j hj, frm_L f2 (by decide), frm_L f1 (by decide)]
  have z58 : ∀ j, 40 ≤ j → h3.L 58 j = 0 := fun j hj => by
    rw [y58, o3 j hj, frm_L f2 (by decide), frm_L f1 (by decide)]; exact h0 j hj
  have x53 : h3.L 53 = va_up (va_up (h.L 53) 6 (h.L 53 8)) 7 (h.L 53 9) := by
    have : g3.L 53 = h.L 53 := frm_L fr (by decide)
    rw [q3, q2, ← this]; rfl
  refine mk_kI (wf_L q3 (wf_L q2 hg3)) ⟨by rw [k5, x54 _ (by decide)]; exact a3, MW_to ⟨?_, ?_, by rw [x54 _ (by decide)]; exact a3, by rw [x54 _ (by decide)]; exact a4, by rw [x53]; exact a5, by rw [x54 _ (by decide)]; exact a6, by rw [x54 _ (by decide)]; exact a7, by rw [x54 _ (by decide)]; exact a8, by rw [x54 _ (by decide)]; exact a9, by rw [x54 _ (by decide)]; exact b1, b2, ?_⟩ hf z58, by rw [x53]; rfl, frm_tr (frm_up fr (by decide) (by decide)) (frm_tr (frm_wL q2 (by decide)) (frm_wL q3 (by decide))), ?_⟩
  · intro k hk; rw [x58 k hk]; exact a1 k hk
  · intro u v hu hv hg; rw [x55 _ (pr_lt hu hv)]; exact a2 u v hu hv hg
  · intro i hi; exact mE_cong (by omega) x54 (b3 i hi)
  · intro j h6 h7
    rw [x53, va_up_ne _ _ h7, va_up_ne _ _ h6]
theorem CW_frm {h' : AH} {SI SL : List Nat} {a nr wr pa cl : Nat} (hf : frm SI SL h h') (q : CW h a nr wr pa cl s n en) (h1 : ∀ k ∈ [a, wr, pa, cl], k ∉ SI) (h2 : ∀ k ∈ [a, nr], k ∉ SL) : CW h' a nr wr pa cl s n en := by
  unfold CW at *
  rw [frm_I hf (h1 a (by simp)), frm_I hf (h1 wr (by simp)), frm_I hf (h1 pa (by simp)), frm_I hf (h1 cl (by simp)), frm_L hf (h2 a (by simp)), frm_L hf (h2 nr (by simp))]
  exact q
theorem MW_frm {h' : AH} {SI SL : List Nat} {nr wr sr hs : Nat} (hf : frm SI SL h h') (q : MW h nr wr sr hs s n en) (h1 : ∀ k ∈ [wr, sr], k ∉ SI) (h2 : nr ∉ SL) (h3 : h'.L 53 hs = h.L 53 hs) : MW h' nr wr sr hs s n en := by
  unfold MW at *
  rw [frm_I hf (h1 wr (by simp)), frm_I hf (h1 sr (by simp)), frm_L hf h2, h3]
  exact q
theorem p_image (hw : zWF h) (hN : NET c h) (hp : h.L 2 10 = h.L 53 7) : zK (d + 10) m_X10_image [.ref 1] h (kI fun a h1 => zK (d + 10) m_X11_image [.ref 53] h1 (kI fun b h2 => a = b ∧ NET c h2 ∧ IMG c h2 ∧ imf h h2)) := by
  obtain ⟨s, n, en, qc, qm, qn⟩ := hN
  refine r_X10_image_0 hw (use_kV (c_becomeK hw (CW_of qc)) (fun h1 hw1 ⟨a1, a2, a3⟩ h2 q2 => ?_))
  have f2 : frm [1] [] h1 h2 := frm_wI q2 (by decide)
  have hw2 : zWF h2 := wf_I q2 hw1
  have f02 : frm [1, 7, 9, 10, 11] [7, 8] h h2 := frm_tr (frm_up a3 (by decide) (by decide)) (frm_up f2 (by decide) (by decide))
  have cw2 := CW_frm f2 a1 (by decide) (by decide)
  have qc2 := cN_frm f02 qc (by decide) (by decide)
  have qm2 := mN_frm f02 qm (by decide) (by decide)
  refine mk_kI hw2 (zK_mono (m_image (d := d + 9) hw2 (MW_of qm2)) (fun r h3 ⟨b, e1, hw3, b0, b1, b2, b3, b4, b5, b6⟩ => ⟨b, e1, hw3, ?_, ?_, Or.inr ⟨?_, b3, s, n, en, CW_frm b4 cw2 (by decide) (by decide), b1, qn, ?_⟩, ?_⟩))
  · rw [b0, qc2.1.2.2.1]
  · exact ⟨s, n, en, cN_frm b4 qc2 (by decide) (by decide), ⟨by
      obtain ⟨m1, m2, m3, m4, m5, m6, m7, m8, m9⟩ := qm2.1
      unfold MN
      rw [frm_L b4 (by decide), frm_I b4 (by decide), frm_I b4 (by decide), b6 6 (by decide) (by decide)]
      exact ⟨m1, m2, m3, m4, m5, m6, m7, m8, m9⟩, ML_frm b4 qm2.2 (by decide)⟩, qn⟩
  · rw [frm_I b4 (by decide), q2]; rfl
  · rw [frm_L b4 (by decide), b2, frm_L f2 (by decide), a2, hp, frm_L f02 (by decide)]
  · refine ⟨frm_tr (frm_up f02 (by decide) (by decide)) (frm_up b4 (by decide) (by decide)), fun j hj => ?_, fun j hj => ?_, fun j h8 h9 => ?_⟩
    · rw [frm_I b4 (by decide), q2, AH.sI_I, va_up_ne _ _ hj, frm_I a3 (by decide)]
    · rw [b5 j hj, frm_I f02 (by decide)]
    · rw [b6 j h8 h9, frm_L f02 (by decide)]
theorem p_undo (hw : zWF h) (hN : NET c h) (hI : IMG c h) (hp : h.L 2 10 = h.L 53 7) : zK (d + 10) m_X10_undo [.ref 1] h (kI fun a h1 => zK (d + 10) m_X11_undo [.ref 53] h1 (kI fun b h2 => a = b ∧ NET c h2 ∧ h2.L 2 10 = h2.L 53 7 ∧ unf h h2)) := by
  rcases hI with ⟨i1, i2⟩ | ⟨i1, i2, s, n, en, cw, mw, qn, ip⟩
  · refine r_X10_undo_0 hw ⟨fun z => absurd i1 z, fun _ => mk_kI hw (r_X11_undo_0 hw ⟨fun z => absurd i2 z, fun _ => mk_kI hw ⟨rfl, hN, hp, frm_rf, fun _ _ _ => rfl⟩⟩)⟩
  · obtain ⟨s0, n0, en0, qc0, qm0, qn0⟩ := hN
    refine r_X10_undo_0 hw ⟨fun _ => ?_, fun z => absurd (i1.symm.trans z) i1_ne0⟩
    refine use_kV (c_becomeN hw cw qn.1.1 (fun k hk => by rw [qc0.1.1]; exact GF_0 qn0.1.1 hk)) (fun h1 hw1 ⟨a1, a2, a3⟩ => ?_)
    have mw1 : MW h1 59 57 56 8 s n en := MW_frm a3 mw (by decide) (by decide) (by rw [frm_L a3 (by decide)])
    refine mk_kI hw1 (zK_mono (m_undo (d := d + 9) hw1 mw1 qn.1.1 (fun k hk => by rw [frm_L a3 (by decide), qm0.1.1]; exact GF_0 qn0.1.1 hk) (by rw [frm_I a3 (by decide)]; exact i2)) (fun r h3 ⟨b, e1, hw3, b0, b1, b2, b3, b4⟩ => ⟨b, e1, hw3, ?_, ⟨s, n, en, cN_frm b3 a1 (by decide) (by decide), b1, qn⟩, ?_, ?_⟩))
    · rw [b0, a1.1.2.2.1]
    · rw [frm_L b3 (by decide), a2, b2, frm_L a3 (by decide), ip]
    · exact ⟨frm_tr (frm_up a3 (by decide) (by decide)) (frm_up b3 (by decide) (by decide)), fun j h6 h7 => by rw [b4 j h6 h7, frm_L a3 (by decide)]⟩
end IMAGE
