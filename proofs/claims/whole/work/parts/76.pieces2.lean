/-! PIECES: the reference, and the pair -/
def mk65 (N : Nat) (M : Nat → Nat) (h : AH) : Prop := ∀ u, u < N → h.I 65 u = nI (M u)
theorem hsC_s (f : Nat → Int64) (K : Int32) (u v : Nat) : hsC f K u (v + 1) = (hsC f K u v || (decide (v ≠ u) && inT f K (pr u v))) := by
  apply b_iff
  rw [hsC_iff, Bool.or_eq_true, hsC_iff, Bool.and_eq_true, decide_eq_true_iff]
  constructor
  · rintro ⟨k, h1, h2, h3⟩
    by_cases e : k = v
    · subst e; exact Or.inr ⟨h2, h3⟩
    · exact Or.inl ⟨k, by omega, h2, h3⟩
  · rintro (⟨k, h1, h2, h3⟩ | ⟨h2, h3⟩)
    · exact ⟨k, by omega, h2, h3⟩
    · exact ⟨v, by omega, h2, h3⟩
theorem bI_or0 (b : Bool) : bI b ||| nI 0 = bI b := by cases b <;> decide
theorem bI_or1 (b : Bool) : bI b ||| nI 1 = bI true := by cases b <;> decide
theorem inT_VA {f : Nat → Int64} {K : Int32} {e : Nat} (he : e < 1600) (h : inT f K e = true) : VA f K (e / 40) (e % 40) := by
  have h1 := (isE_b (inT_iff.mp h).1).1
  refine ⟨by omega, by omega, by omega, ?_⟩
  rw [show pr (e / 40) (e % 40) = e by unfold pr; omega]
  exact h
section PIECESM
variable {d : Nat} {f : Nat → Int64} {K : Int32}
/-- the state of a pass over the edges -/
def PS (f : Nat → Int64) (K : Int32) (M0 : Nat → Nat) (e : Nat) (b : Bool) (M : Nat → Nat) : Prop := MI (VA f K) 40 M ∧ (b = false → M = M0 ∧ ∀ e', e' < e → inT f K e' = true → M (e' / 40) = M (e' % 40)) ∧ (b = true → fb_sm M 40 < fb_sm M0 40)
theorem sm_le {M0 M : Nat → Nat} {e : Nat} {b : Bool} (h : PS f K M0 e b M) : fb_sm M 40 ≤ fb_sm M0 40 := by
  cases b with
  | false => rw [(h.2.1 rfl).1]; exact Nat.le_refl _
  | true => exact Nat.le_of_lt (h.2.2 rfl)
theorem m_pass {Q : Option Value → AH → Prop} {h0 : AH} {M0 : Nat → Nat} (e58 : h0.L 58 = f) (h62 : ∀ e, e < 1600 → isE f e = true → h0.I 62 e = nI (ptr f e)) (Kf : ∀ g b M, zWF g → frm [65] [] h0 g → mk65 40 M g → PS f K M0 1600 b M → zQ none m_X11_pieces (d + 5) 27 [(0, .ref 53), (1, .int K), (2, .int (bI b))] [] g Q) : ∀ e, e ≤ 1600 → ∀ g b M, zWF g → frm [65] [] h0 g → mk65 40 M g → PS f K M0 e b M → zQ none m_X11_pieces (d + 5) 35 [(0, .ref 53), (1, .int K), (2, .int (bI b)), (3, .int (nI e))] [] g Q := by
  refine nat_down ?_ (fun e he ih => ?_)
  · intro g b M hw fr mk ps
    exact r_X11_pieces_35 _ _ _ hw ⟨fun _ => Kf g b M hw fr mk ps, fun z => absurd ((nI_leE (by decide) (by decide)).mpr (Nat.le_refl _)) z⟩
  · intro g b M hw fr mk ps
    have hs := sm_le ps
    obtain ⟨s1, s2, s3⟩ := ps
    have g58 : g.L 58 = f := by rw [frm_L fr List.not_mem_nil]; exact e58
    have g62 : ∀ e, e < 1600 → isE f e = true → g.I 62 e = nI (ptr f e) := fun e he hE => by rw [frm_I fr (by decide)]; exact h62 e he hE
    refine r_X11_pieces_35 _ _ _ hw ⟨fun z => absurd ((nI_leE (by decide) (by omega)).mp z) (by omega), fun _ => use_pI (m_isInTruss he hw g58 g62) ?_⟩
    rw [nI_remE (by omega) (by decide) (by decide), nI_divE (by omega) (by decide) (by decide), nI_add]
    have ha : e / 40 < 40 := by omega
    have hb : e % 40 < 40 := by omega
    refine ⟨fun z => ?_, fun z => ⟨v1600 (by omega), v1600 (by omega), ?_⟩⟩
    · have hn : inT f K e = false := bFb z
      refine ih g b M hw fr mk ⟨s1, fun q => ⟨(s2 q).1, fun e' he' hT => ?_⟩, s3⟩
      by_cases y : e' = e
      · rw [y, hn] at hT; cases hT
      · exact (s2 q).2 e' (by omega) hT
    · have hT : inT f K e = true := bTb z
      have hA := inT_VA he hT
      have ma := (s1 (e / 40) ha).1
      have mb := (s1 (e % 40) hb).1
      have hne : e / 40 ≠ e % 40 := hA.2.2.1
      rw [cl_n (show e / 40 < 1600 by omega) (by decide), cl_n (show e % 40 < 1600 by omega) (by decide), mk _ ha, mk _ hb, ne_eq, nI_eqE (by omega) (by omega), nI_leE (by omega) (by omega)]
      refine ⟨fun y => ⟨v1600 (by omega), v1600 (by omega), fun w => ⟨v1600 (by omega), v1600 (by omega), fun h12 q12 => ⟨v1600 (by omega), fun h14 q14 => ?_⟩⟩, fun w => ⟨v1600 (by omega), v1600 (by omega), fun h17 q17 => ⟨v1600 (by omega), fun h19 q19 => ?_⟩⟩⟩, fun y => ?_⟩
      · have hm : MI (VA f K) 40 (va_up M (e / 40) (M (e % 40))) := mi_up s1 ha hb (Cn_st hA) w
        have e14 : h14.I 65 = va_up (va_up (g.I 65) (e / 40) (nI (M (e % 40)))) (e % 40) (nI (M (e % 40))) := by rw [q14, AH.sI_I, q12, AH.sI_I]
        refine ih h14 true (va_up M (e / 40) (M (e % 40))) (wf_I q14 (wf_I q12 hw)) (frm_tr fr (frm_tr (frm_wI q12 (by decide)) (frm_wI q14 (by decide)))) (fun u hu => ?_) ⟨hm, (fun q => by cases q), fun _ => ?_⟩
        · rw [e14]
          by_cases k1 : u = e % 40
          · rw [k1, va_up_self, va_up_ne _ _ (fun q => hne q.symm)]
          · rw [va_up_ne _ _ k1]
            by_cases k2 : u = e / 40
            · rw [k2, va_up_self, va_up_self]
            · rw [va_up_ne _ _ k2, va_up_ne _ _ k2]; exact mk u hu
        · have := sm_up (M := M) (l := M (e % 40)) (n := 40) ha
          omega
      · have hm : MI (VA f K) 40 (va_up M (e % 40) (M (e / 40))) := mi_up s1 hb ha (Cn_st (VA_sy f K _ _ hA)) (by omega)
        have e19 : h19.I 65 = va_up (va_up (g.I 65) (e / 40) (nI (M (e / 40)))) (e % 40) (nI (M (e / 40))) := by rw [q19, AH.sI_I, q17, AH.sI_I]
        refine ih h19 true (va_up M (e % 40) (M (e / 40))) (wf_I q19 (wf_I q17 hw)) (frm_tr fr (frm_tr (frm_wI q17 (by decide)) (frm_wI q19 (by decide)))) (fun u hu => ?_) ⟨hm, (fun q => by cases q), fun _ => ?_⟩
        · rw [e19]
          by_cases k1 : u = e % 40
          · rw [k1, va_up_self, va_up_self]
          · rw [va_up_ne _ _ k1, va_up_ne _ _ k1]
            by_cases k2 : u = e / 40
            · rw [k2, va_up_self]
            · rw [va_up_ne _ _ k2]; exact mk u hu
        · have := sm_up (M := M) (l := M (e / 40)) (n := 40) hb
          omega
      · refine ih g b M hw fr mk ⟨s1, fun q => ⟨(s2 q).1, fun e' he' hT => ?_⟩, s3⟩
        by_cases k : e' = e
        · rw [k]; exact y
        · exact (s2 q).2 e' (by omega) hT
theorem m_marks {Q : Option Value → AH → Prop} {h0 : AH} (e58 : h0.L 58 = f) (h62 : ∀ e, e < 1600 → isE f e = true → h0.I 62 e = nI (ptr f e)) (Kf : ∀ g M, zWF g → frm [65] [] h0 g → mk65 40 M g → MI (VA f K) 40 M → (∀ x y, VA f K x y → M x = M y) → zQ none m_X11_pieces (d + 5) 153 [(0, .ref 53), (1, .int K), (3, .int (nI 0)), (4, .int (nI 0))] [] g Q) : ∀ n g M, fb_sm M 40 ≤ n → zWF g → frm [65] [] h0 g → mk65 40 M g → MI (VA f K) 40 M → zQ none m_X11_pieces (d + 5) 27 [(0, .ref 53), (1, .int K), (2, .int (nI 1))] [] g Q := by
  have fin : ∀ (M0 : Nat → Nat) g b M, zWF g → frm [65] [] h0 g → mk65 40 M g → PS f K M0 1600 b M → (b = true → ∀ g, zWF g → frm [65] [] h0 g → mk65 40 M g → zQ none m_X11_pieces (d + 5) 27 [(0, .ref 53), (1, .int K), (2, .int (nI 1))] [] g Q) → zQ none m_X11_pieces (d + 5) 27 [(0, .ref 53), (1, .int K), (2, .int (bI b))] [] g Q := by
    intro M0 g b M hw fr mk ps K2
    cases b with
    | true => exact K2 rfl g hw fr mk
    | false =>
      obtain ⟨s1, s2, s3⟩ := ps
      refine r_X11_pieces_27 _ _ hw ⟨fun _ => Kf g M hw fr mk s1 (fun x y hxy => ?_), fun z => absurd bf0 z⟩
      have := (s2 rfl).2 (pr x y) (pr_lt hxy.1 hxy.2.1) hxy.2.2.2
      obtain ⟨d1, d2⟩ := pr_div hxy.1 hxy.2.1
      rw [d1, d2] at this
      rcases Nat.lt_or_gt_of_ne hxy.2.2.1 with z | z
      · rw [Nat.min_eq_left (by omega), Nat.max_eq_right (by omega)] at this; exact this
      · rw [Nat.min_eq_right (by omega), Nat.max_eq_left (by omega)] at this; exact this.symm
  intro n
  induction n with
  | zero =>
    intro g M hn hw fr mk hM
    refine r_X11_pieces_27 _ _ hw ⟨fun z => absurd z i1_ne0, fun _ => ?_⟩
    exact m_pass (M0 := M) e58 h62 (fun g b M' hw fr mk ps => fin M g b M' hw fr mk ps (fun q => absurd (ps.2.2 q) (by omega))) 0 (Nat.zero_le _) g false M hw fr mk ⟨hM, fun _ => ⟨rfl, fun e' he' => absurd he' (Nat.not_lt_zero _)⟩, fun q => by cases q⟩
  | succ n ih =>
    intro g M hn hw fr mk hM
    refine r_X11_pieces_27 _ _ hw ⟨fun z => absurd z i1_ne0, fun _ => ?_⟩
    exact m_pass (M0 := M) e58 h62 (fun g b M' hw fr mk ps => fin M g b M' hw fr mk ps (fun q g hw fr mk => ih g M' (by have := ps.2.2 q; omega) hw fr mk ps.1)) 0 (Nat.zero_le _) g false M hw fr mk ⟨hM, fun _ => ⟨rfl, fun e' he' => absurd he' (Nat.not_lt_zero _)⟩, fun q => by cases q⟩
theorem m_pieCount {g : AH} {M : Nat → Nat} {P : Int32 → AH → Prop} (hw : zWF g) (e58 : g.L 58 = f) (h62 : ∀ e, e < 1600 → isE f e = true → g.I 62 e = nI (ptr f e)) (mk : mk65 40 M g) (hM : MI (VA f K) 40 M) (st : ∀ x y, VA f K x y → M x = M y) (KP : P (nI (pieN f K 40)) g) : zQ none m_X11_pieces (d + 5) 153 [(0, .ref 53), (1, .int K), (3, .int (nI 0)), (4, .int (nI 0))] [] g (kI P) := by
  have key : ∀ u, u ≤ 40 → zQ none m_X11_pieces (d + 4 + 1) 153 [(0, .ref 53), (1, .int K), (3, .int (nI (pieN f K u))), (4, .int (nI u))] [] g (kI P) := by
    refine nat_down ?_ (fun u hu ih => ?_)
    · exact r_X11_pieces_153 _ _ _ hw ⟨fun _ => mk_kI hw KP, fun z => absurd e40 z⟩
    · refine r_X11_pieces_153 _ _ _ hw ⟨fun z => absurd z (n40 hu), fun _ => ?_⟩
      have es : pieN f K (u + 1) = pieN f K u + (if hsC f K u 40 && rtB (VA f K) u then 1 else 0) := rfl
      have hr := mi_rt (VA_lt f K) hM st hu
      have mu := (hM u hu).1
      have inner : ∀ v, v ≤ 40 → zQ none m_X11_pieces (d + 4 + 1) 166 [(0, .ref 53), (1, .int K), (3, .int (nI (pieN f K u))), (4, .int (nI u)), (5, .int (bI (hsC f K u v))), (6, .int (nI v))] [] g (kI P) := by
        refine nat_down ?_ (fun v hv ihv => ?_)
        · refine r_X11_pieces_166 _ _ _ _ _ hw ⟨fun _ => ⟨fun z => ?_, fun z => ⟨v1600 (by omega), ?_⟩⟩, fun z => absurd e40 z⟩
          · have hn : hsC f K u 40 = false := bFb z
            rw [es, hn] at ih
            rw [nI_add, nI_add]
            exact ih
          · have ht : hsC f K u 40 = true := bTb z
            rw [cl_n (show u < 1600 by omega) (by decide), mk u hu, ne_eq, nI_eqE (by omega) (by omega), nI_add, nI_add, nI_add]
            rw [es, ht, Bool.true_and] at ih
            refine ⟨fun y => ?_, fun y => ?_⟩
            · have : rtB (VA f K) u = false := by
                cases q : rtB (VA f K) u with
                | false => rfl
                | true => exact absurd (hr.mpr (rtB_iff.mp q)) y
              rw [this] at ih
              exact ih
            · rw [rtB_iff.mpr (hr.mp y)] at ih
              exact ih
        · rw [hsC_s] at ihv
          refine r_X11_pieces_166 _ _ _ _ _ hw ⟨fun z => absurd z (n40 hv), fun _ => ?_⟩
          rw [nI_eqE (by omega) (by omega), nI_add, bI_or0, bI_or1]
          refine ⟨fun z => ?_, fun z => use_pI (m_edge hu hv) (use_pI (m_isInTruss (pr_lt hu hv) hw e58 h62) ⟨fun y => ?_, fun y => ?_⟩)⟩
          · rw [decide_eq_false (fun q => q z), Bool.false_and, Bool.or_false] at ihv
            exact ihv
          · rw [bFb y, Bool.and_false, Bool.or_false] at ihv
            exact ihv
          · rw [bTb y, decide_eq_true z, Bool.true_and, Bool.or_true] at ihv
            exact ihv
      have h00 : bI (hsC f K u 0) = nI 0 := by
        have : hsC f K u 0 = false := rfl
        rw [this]; rfl
      have := inner 0 (Nat.zero_le _)
      rw [h00] at this
      exact this
  exact key 0 (Nat.zero_le _)
theorem p_pieces {c : Nat} {h : AH} (x : Int32) (hw : zWF h) (hN : NET c h) (hP : PEEL h) : zK (d + 10) m_X10_pieces [.ref 1, .int x] h (kI fun a h1 => zK (d + 10) m_X11_pieces [.ref 53, .int x] h1 (kI fun b h2 => a = b ∧ NET c h2 ∧ PEEL h2 ∧ plf h h2)) := by
  obtain ⟨s, n, en, qc, qm, qn⟩ := hN
  have hf : GF s.f := qn.1.1
  refine r_X10_pieces_0 _ hw (use_kV (c_follow (d := d + 4) hf hw qc.1.1 hP) (fun h0 hw0 ⟨a1, a2⟩ => use_kI (c_piecesFrom hf hw0 a1) (fun y h1 hw1 ⟨d1, d2⟩ => mk_kI hw1 ?_)))
  subst d1
  have qc1 := cN_frm d2 (cN_frm a2 qc (by decide) (by decide)) (by decide) (by decide)
  have qm1 := mN_frm d2 (mN_frm a2 qm (by decide) (by decide)) (by decide) (by decide)
  have P1 : PEEL h1 := PEEL_frm d2 (fun k _ => List.not_mem_nil) (by decide) ⟨s.f, hf, a1⟩
  have f1 : plf h h1 := plf_tr (plf_c a2) ⟨frm_up d2 (by decide) (by decide), fun j _ => by rw [frm_I d2 List.not_mem_nil]⟩
  have e5 : h1.I 54 5 = nI (ecn s.f) := by rw [qm1.1.2.2.1, qn.1.2.1]; rfl
  refine r_X11_pieces_0 _ hw1 (use_kV (m_peels (d := d + 4) hf hw1 qm1.1.1 e5) (fun h2 hw2 ⟨b1, b2⟩ => ?_))
  have qc2 := cN_frm b2.1 qc1 (by decide) (by decide)
  have qm2 := mN_frm b2.1 qm1 (by decide) (by decide)
  have P2 : PEEL h2 := PEEL_frm b2.1 (by decide) (by decide) P1
  have f2 : plf h h2 := plf_tr f1 (plf_m b2)
  have h62 : ∀ e, e < 1600 → isE s.f e = true → h2.I 62 e = nI (ptr s.f e) := fun e he hE => PF_tr hf b1 he hE
  have start : ∀ g, zWF g → frm [65] [] h2 g → mk65 40 id g → zQ none m_X11_pieces (d + 9 + 1) 27 [(0, .ref 53), (1, .int x), (2, .int (nI 1))] [] g (kI fun b h2 => nI (pieN s.f x 40) = b ∧ NET c h2 ∧ PEEL h2 ∧ plf h h2) := by
    intro g hg fg mg
    refine m_marks (d := d + 5) (h0 := h2) qm2.1.1 h62 (fun g' M hw' fr mk hM st => ?_) (fb_sm id 40) g id (Nat.le_refl _) hg fg mg (fun u _ => ⟨Nat.le_refl _, Cn_rf⟩)
    refine m_pieCount hw' (by rw [frm_L fr List.not_mem_nil]; exact qm2.1.1) (fun e he hE => by rw [frm_I fr (by decide)]; exact h62 e he hE) mk hM st ⟨rfl, ⟨s, n, en, cN_frm fr qc2 (by decide) (by decide), mN_frm fr qm2 (by decide) (by decide), qn⟩, PEEL_frm fr (by decide) (by decide) P2, plf_tr f2 ⟨frm_up fr (by decide) (by decide), fun j _ => by rw [frm_I fr (by decide)]⟩⟩
  have fill : ∀ u, u ≤ 40 → ∀ g, zWF g → frm [65] [] h2 g → mk65 u id g → zQ none m_X11_pieces (d + 9 + 1) 6 [(0, .ref 53), (1, .int x), (2, .int (nI u))] [] g (kI fun b h2 => nI (pieN s.f x 40) = b ∧ NET c h2 ∧ PEEL h2 ∧ plf h h2) := by
    refine nat_down ?_ (fun u hu ih => ?_)
    · intro g hg fg mg
      exact r_X11_pieces_6 _ _ hg ⟨fun _ => start g hg fg mg, fun z => absurd e40 z⟩
    · intro g hg fg mg
      refine r_X11_pieces_6 _ _ hg ⟨fun z => absurd z (n40 hu), fun _ => ⟨v1600 (by omega), fun h3 q3 => ?_⟩⟩
      rw [cl_n (show u < 1600 by omega) (by decide)] at q3
      rw [nI_add]
      refine ih h3 (wf_I q3 hg) (frm_tr fg (frm_wI q3 (by decide))) (fun w hw3 => ?_)
      rw [q3, AH.sI_I]
      by_cases e : w = u
      · rw [e, va_up_self]; rfl
      · rw [va_up_ne _ _ e]; exact mg w (by omega)
  exact fill 0 (Nat.zero_le _) h2 hw2 frm_rf (fun w hw3 => absurd hw3 (Nat.not_lt_zero _))
end PIECESM
