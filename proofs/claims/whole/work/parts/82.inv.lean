/-! what the law's loop keeps -/
def eqI (l : List Nat) (h h' : AH) : Prop := ∀ k ∈ l, h'.I k = h.I k
def eqL (l : List Nat) (h h' : AH) : Prop := ∀ k ∈ l, h'.L k = h.L k
theorem eqI_f {SI SL l : List Nat} {h h' : AH} (a : frm SI SL h h') (hd : ∀ k ∈ l, k ∉ SI) : eqI l h h' := fun k hk => frm_I a (hd k hk)
theorem eqL_f {SI SL l : List Nat} {h h' : AH} (a : frm SI SL h h') (hd : ∀ k ∈ l, k ∉ SL) : eqL l h h' := fun k hk => frm_L a (hd k hk)
theorem eqI_p {l : List Nat} {h h' : AH} (a : papf h h') (hd : ∀ k ∈ l, k < 71 ∧ k ≠ 37 ∧ k ≠ 38 ∧ k ≠ 53 ∧ k ≠ 68) : eqI l h h' := fun k hk => by
  obtain ⟨h1, h2, h3, h4, h5⟩ := hd k hk
  exact a.2.2.2.1 k h1 h2 h3 h4 h5
theorem eqL_p {l : List Nat} {h h' : AH} (a : papf h h') (hd : ∀ k ∈ l, k < 71) : eqL l h h' := fun k hk => a.2.2.2.2.2 k (hd k hk)
def nI_ : List Nat := [2, 4, 5, 6, 54, 55]
def nL_ : List Nat := [2, 3, 58]
def gI_ : List Nat := [1, 7, 9, 10, 11, 56, 57]
def gL_ : List Nat := [7, 8, 59]
def tI_ : List Nat := [23, 24, 66]
def eI_ : List Nat := [12, 16, 17, 18]
theorem num_up {c c' : Nat} {s : NS} {n : Nat} {en : Nat → Ent} (hc : c ≤ c') (q : num c s n en) : num c' s n en := ⟨q.1, q.2.1, cb_le hc q.2.2⟩
section INV
variable {h h' : AH} {c c' : Nat}
theorem NET_q (a : eqI nI_ h h') (b : eqL nL_ h h') (e6 : h'.L 53 6 = h.L 53 6) (hc : c ≤ c') (q : NET c h) : NET c' h' := by
  obtain ⟨s, n, en, ⟨q1, q2⟩, ⟨q3, q4⟩, q5⟩ := q
  refine ⟨s, n, en, ⟨?_, ?_⟩, ⟨?_, ?_⟩, num_up hc q5⟩
  · unfold CN at *
    rw [b 3 (by decide), a 4 (by decide), a 2 (by decide), b 2 (by decide)]
    exact q1
  · unfold CL at *
    rw [a 5 (by decide), a 6 (by decide)]
    exact q2
  · unfold MN at *
    rw [b 58 (by decide), a 55 (by decide), a 54 (by decide), e6]
    exact q3
  · unfold ML at *
    rw [a 54 (by decide)]
    exact q4
theorem IMG_q (a : eqI gI_ h h') (b : eqL gL_ h h') (e10 : h'.I 53 10 = h.I 53 10) (e8 : h'.L 53 8 = h.L 53 8) (e9 : h'.L 53 9 = h.L 53 9) (hc : c ≤ c') (q : IMG c h) : IMG c' h' := by
  rcases q with ⟨q1, q2⟩ | ⟨q1, q2, s, n, en, q3, q4, q5, q6⟩
  · left
    rw [a 1 (by decide), e10]
    exact ⟨q1, q2⟩
  · right
    rw [a 1 (by decide), e10, b 7 (by decide), e9]
    refine ⟨q1, q2, s, n, en, ?_, ?_, num_up hc q5, q6⟩
    · unfold CW at *
      rw [b 8 (by decide), a 9 (by decide), a 7 (by decide), b 7 (by decide), a 10 (by decide), a 11 (by decide)]
      exact q3
    · unfold MW at *
      rw [b 59 (by decide), a 57 (by decide), a 56 (by decide), e8]
      exact q4
theorem PEEL_q (a : eqI eI_ h h') (b : h'.L 13 = h.L 13) (q : PEEL h) : PEEL h' := by
  obtain ⟨f, q1, q2, q3, q4⟩ := q
  refine ⟨f, q1, fun k hk => by rw [b]; exact q2 k hk, by rw [a 12 (by decide)]; exact q3, ?_⟩
  rw [a 16 (by decide), a 17 (by decide), a 18 (by decide)]
  exact q4
theorem TAPE_q (a : eqI tI_ h h') (e19 : h'.I 53 19 = h.I 53 19) (q : TAPE h) : TAPE h' := by
  obtain ⟨len, t1, t2, t3, t4⟩ := q
  refine ⟨len, by rw [a 23 (by decide)]; exact t1, by rw [e19]; exact t2, t3, fun i hi => ?_⟩
  rw [a 24 (by decide), a 66 (by decide)]
  exact t4 i hi
theorem lsI_at {l : Nat} (hl : l < 6) : 41 + 2 * l ∈ lsI := by
  have : ∀ l, l < 6 → 41 + 2 * l ∈ lsI := by decide
  exact this l hl
theorem lsL_at {l : Nat} (hl : l < 6) : 42 + 2 * l ∈ lsL := by
  have : ∀ l, l < 6 → 42 + 2 * l ∈ lsL := by decide
  exact this l hl
theorem LST_q (a : eqI lsI h h') (b : eqL lsL h h') (e : h'.P 39 = h.P 39) (q : LST h) : LST h' := by
  intro l hl
  have := q l hl
  unfold LSTat at *
  rw [e, a _ (lsI_at hl), a 69 (by decide), b _ (lsL_at hl), b 70 (by decide)]
  exact this
theorem PAP_f {SI SL : List Nat} (a : frm SI SL h h') (h1 : ∀ k ∈ SI, k < 71 ∧ k ≠ 37 ∧ k ≠ 38 ∧ k ≠ 68) (e25 : h'.I 53 25 = h.I 53 25) (q : PAP h) : PAP h' := by
  obtain ⟨q, ⟨pb, e, hz, he, hpb, hn, p1, hWl, hT, hB, hN, hU⟩, ⟨m1, m2⟩, p3⟩ := q
  have xpb : h'.I pb = h.I pb := frm_I a (fun z => by
    obtain ⟨z1, z2, z3, z4⟩ := h1 pb z
    omega)
  have x37 : h'.I 37 = h.I 37 := frm_I a (fun z => (h1 37 z).2.1 rfl)
  have x68 : h'.I 68 = h.I 68 := frm_I a (fun z => (h1 68 z).2.2.2 rfl)
  obtain ⟨f1, f2, f3, f4, _, _⟩ := a
  exact ⟨q, ⟨pb, e, ⟨by rw [f4]; exact hz.1, by rw [f3]; exact hz.2⟩, he, hpb, by rw [f1]; exact hn, by rw [x37]; exact p1, hWl, by rw [xpb]; exact hT, by rw [xpb]; exact hB, by rw [f1]; exact hN, by rw [f2]; exact hU⟩, ⟨by rw [e25]; exact m1, by rw [x68]; exact m2⟩, p3⟩
/-- the invariant -/
def LI (c : Nat) (h : AH) : Prop := NET c h ∧ h.L 2 10 = h.L 53 7 ∧ IMG c h ∧ PEEL h ∧ TAPE h ∧ PAP h ∧ LST h
theorem LI_same (hc : c ≤ c') (q : LI c h) (n : NET c' h') (s : same h h') : LI c' h' := by
  obtain ⟨q1, q2, q3, q4, q5, q6, q7⟩ := q
  obtain ⟨a, b, e⟩ := s
  have i53 : h'.I 53 = h.I 53 := frm_I a (by decide)
  refine ⟨n, by rw [b, e 7 (by decide)]; exact q2, IMG_q (eqI_f a (by decide)) (eqL_f a (by decide)) (by rw [i53]) (e 8 (by decide)) (e 9 (by decide)) hc q3, PEEL_q (eqI_f a (by decide)) (frm_L a (by decide)) q4, TAPE_q (eqI_f a (by decide)) (by rw [i53]) q5, PAP_f a (by decide) (by rw [i53]) q6, LST_q (eqI_f a (by decide)) (eqL_f a (by decide)) (by rw [a.2.2.2.1]) q7⟩
theorem LI_plf (q : LI c h) (n : NET c h') (p : PEEL h') (s : plf h h') (hc : c ≤ c') : LI c' h' := by
  obtain ⟨q1, q2, q3, q4, q5, q6, q7⟩ := q
  obtain ⟨a, e⟩ := s
  have l53 : h'.L 53 = h.L 53 := frm_L a (by decide)
  refine ⟨NET_up hc n, by rw [l53, frm_L a (show 2 ∉ plL by decide)]; exact q2, IMG_q (eqI_f a (by decide)) (eqL_f a (by decide)) (e 10 (by decide)) (by rw [l53]) (by rw [l53]) hc q3, p, TAPE_q (eqI_f a (by decide)) (e 19 (by decide)) q5, PAP_f a (by decide) (e 25 (by decide)) q6, LST_q (eqI_f a (by decide)) (eqL_f a (by decide)) (by rw [a.2.2.2.1]) q7⟩
theorem LI_tpf (q : LI c h) (t : TAPE h') (s : tpf h h') (hc : c ≤ c') : LI c' h' := by
  obtain ⟨q1, q2, q3, q4, q5, q6, q7⟩ := q
  obtain ⟨a, e10, e25⟩ := s
  have l : h'.L = h.L := funext (fun k => frm_L a List.not_mem_nil)
  refine ⟨NET_q (eqI_f a (by decide)) (eqL_f a (by decide)) (by rw [l]) hc q1, by rw [l]; exact q2, IMG_q (eqI_f a (by decide)) (eqL_f a (by decide)) e10 (by rw [l]) (by rw [l]) hc q3, PEEL_q (eqI_f a (by decide)) (by rw [l]) q4, t, PAP_f a (by decide) e25 q6, LST_q (eqI_f a (by decide)) (eqL_f a (by decide)) (by rw [a.2.2.2.1]) q7⟩
theorem LI_bfr (q : LI c h) (n : NET c' h') (t : TAPE h') (s : bfr h h') (hc : c ≤ c') : LI c' h' := by
  obtain ⟨q1, q2, q3, q4, q5, q6, q7⟩ := q
  obtain ⟨a, b, e, e10, e25⟩ := s
  exact ⟨n, by rw [b, e 7 (by decide)]; exact q2, IMG_q (eqI_f a (by decide)) (eqL_f a (by decide)) e10 (e 8 (by decide)) (e 9 (by decide)) hc q3, PEEL_q (eqI_f a (by decide)) (frm_L a (by decide)) q4, t, PAP_f a (by decide) e25 q6, LST_q (eqI_f a (by decide)) (eqL_f a (by decide)) (by rw [a.2.2.2.1]) q7⟩
theorem LI_pif (q : LI c h) (n : NET c h') (t : TAPE h') (k : h'.L 2 10 = h'.L 53 7) (s : pif h h') (hc : c ≤ c') : LI c' h' := by
  obtain ⟨q1, q2, q3, q4, q5, q6, q7⟩ := q
  obtain ⟨a, e, e10, e25⟩ := s
  exact ⟨NET_up hc n, k, IMG_q (eqI_f a (by decide)) (eqL_f a (by decide)) e10 (e 8 (by decide)) (e 9 (by decide)) hc q3, PEEL_q (eqI_f a (by decide)) (frm_L a (by decide)) q4, t, PAP_f a (by decide) e25 q6, LST_q (eqI_f a (by decide)) (eqL_f a (by decide)) (by rw [a.2.2.2.1]) q7⟩
theorem LI_papf (q : LI c h) (n : NET c h') (p : PAP h') (s : papf h h') (hc : c ≤ c') : LI c' h' := by
  obtain ⟨q1, q2, q3, q4, q5, q6, q7⟩ := q
  have l53 : h'.L 53 = h.L 53 := s.2.2.2.2.2 53 (by decide)
  refine ⟨NET_up hc n, by rw [l53, s.2.2.2.2.2 2 (by decide)]; exact q2, IMG_q (eqI_p s (by decide)) (eqL_p s (by decide)) (s.2.2.2.2.1 10 (by decide)) (by rw [l53]) (by rw [l53]) hc q3, PEEL_q (eqI_p s (by decide)) (s.2.2.2.2.2 13 (by decide)) q4, TAPE_q (eqI_p s (by decide)) (s.2.2.2.2.1 19 (by decide)) q5, p, LST_q (eqI_p s (by decide)) (eqL_p s (by decide)) (s.2.2.1 39 (by decide) (by decide)) q7⟩
theorem LI_ls (q : LI c h) (p : LST h') (a : frm lsI lsL h h') (hc : c ≤ c') : LI c' h' := by
  obtain ⟨q1, q2, q3, q4, q5, q6, q7⟩ := q
  have l53 : h'.L 53 = h.L 53 := frm_L a (by decide)
  have i53 : h'.I 53 = h.I 53 := frm_I a (by decide)
  exact ⟨NET_q (eqI_f a (by decide)) (eqL_f a (by decide)) (by rw [l53]) hc q1, by rw [l53, frm_L a (show 2 ∉ lsL by decide)]; exact q2, IMG_q (eqI_f a (by decide)) (eqL_f a (by decide)) (by rw [i53]) (by rw [l53]) (by rw [l53]) hc q3, PEEL_q (eqI_f a (by decide)) (frm_L a (by decide)) q4, TAPE_q (eqI_f a (by decide)) (by rw [i53]) q5, PAP_f a (by decide) (by rw [i53]) q6, p⟩
theorem LI_ly (q : LI c h) (n : NET c h') (p : LST h') (a : frm lyI lsL h h') (hc : c ≤ c') : LI c' h' := by
  obtain ⟨q1, q2, q3, q4, q5, q6, q7⟩ := q
  have l53 : h'.L 53 = h.L 53 := frm_L a (by decide)
  have i53 : h'.I 53 = h.I 53 := frm_I a (by decide)
  exact ⟨NET_up hc n, by rw [l53, frm_L a (show 2 ∉ lsL by decide)]; exact q2, IMG_q (eqI_f a (by decide)) (eqL_f a (by decide)) (by rw [i53]) (by rw [l53]) (by rw [l53]) hc q3, PEEL_q (eqI_f a (by decide)) (frm_L a (by decide)) q4, TAPE_q (eqI_f a (by decide)) (by rw [i53]) q5, PAP_f a (by decide) (by rw [i53]) q6, p⟩
theorem IMG_up (hc : c ≤ c') (q : IMG c h) : IMG c' h := IMG_q (fun _ _ => rfl) (fun _ _ => rfl) rfl rfl rfl hc q
theorem LI_imf (q : LI c h) (n : NET c h') (g : IMG c h') (s : imf h h') (hc : c ≤ c') : LI c' h' := by
  obtain ⟨q1, q2, q3, q4, q5, q6, q7⟩ := q
  obtain ⟨a, e1, e53, el⟩ := s
  exact ⟨NET_up hc n, by rw [el 7 (by decide) (by decide), frm_L a (show 2 ∉ [7, 8, 53, 59] by decide)]; exact q2, IMG_up hc g, PEEL_q (eqI_f a (by decide)) (frm_L a (by decide)) q4, TAPE_q (eqI_f a (by decide)) (e53 19 (by decide)) q5, PAP_f a (by decide) (e53 25 (by decide)) q6, LST_q (eqI_f a (by decide)) (eqL_f a (by decide)) (by rw [a.2.2.2.1]) q7⟩
theorem LI_unf (q : LI c h) (n : NET c h') (k : h'.L 2 10 = h'.L 53 7) (s : unf h h') (hc : c ≤ c') : LI c' h' := by
  obtain ⟨q1, q2, q3, q4, q5, q6, q7⟩ := q
  obtain ⟨a, el⟩ := s
  have i53 : h'.I 53 = h.I 53 := frm_I a (by decide)
  exact ⟨NET_up hc n, k, IMG_q (eqI_f a (by decide)) (eqL_f a (by decide)) (by rw [i53]) (el 8 (by decide) (by decide)) (el 9 (by decide) (by decide)) hc q3, PEEL_q (eqI_f a (by decide)) (frm_L a (by decide)) q4, TAPE_q (eqI_f a (by decide)) (by rw [i53]) q5, PAP_f a (by decide) (by rw [i53]) q6, LST_q (eqI_f a (by decide)) (eqL_f a (by decide)) (by rw [a.2.2.2.1]) q7⟩
theorem LI_up (hc : c ≤ c') (q : LI c h) : LI c' h := ⟨NET_up hc q.1, q.2.1, IMG_up hc q.2.2.1, q.2.2.2⟩
theorem LI_0 : LI 0 hc_190 := by
  obtain ⟨i1, i2, i3, i4, i5, i6, i7, i8, i9, i10, i11, i12, i13, i14, i15, i16, i17⟩ := in_I
  refine ⟨in_net, by rw [hz_190, hz_190], Or.inl ⟨i11, i12⟩, ⟨fun _ => 0, GF_00, fun k _ => hz_190 13 k, by rw [ecn_00]; exact i13, by rw [ecn_00]; exact PF_0 _ _ _ _⟩, TAPE_0 i14 i15, ⟨(0, fun _ => 0), ⟨38, 0, in_pap, Nat.zero_le _, Or.inl rfl, by rw [in_n]; decide, i16, Nat.zero_le _, fun i hi => absurd hi (Nat.not_lt_zero _), fun i hi => ⟨0, Nat.zero_le _, in_38 i hi⟩, by rw [in_n]; exact Nat.le_refl _, in_u⟩, ⟨i17, fun i hi => absurd hi (Nat.not_lt_zero _)⟩, Nat.zero_le _⟩, fun l hl => ?_⟩
  obtain ⟨l1, l2, l3, l4, l5⟩ := in_ls l hl
  exact ⟨l1, l2, Or.inl ⟨l3, l4, l5⟩⟩
theorem PAP_end (q : PAP h) : h.n ≤ 600001 ∧ h.u ≤ 7302250 := by
  obtain ⟨q, ⟨pb, e, hz, he, hpb, hn, p1, hWl, hT, hB, hN, hU⟩, _, _⟩ := q
  have hle : 256 * 2 ^ e ≤ 32768 := Nat.le_trans (Nat.mul_le_mul_left 256 (Nat.pow_le_pow_right (by decide) he)) (by decide)
  omega
theorem PAP_len (q : PAP h) : h.I 37 1 = h.I 53 25 := by
  obtain ⟨q, ⟨pb, e, hz, he, hpb, hn, p1, hWl, hT, hB, hN, hU⟩, ⟨m1, m2⟩, _⟩ := q
  rw [p1, m1]
end INV
