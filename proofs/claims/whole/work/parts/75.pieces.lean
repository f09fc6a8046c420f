/-! PIECES: the class -/
def tOK (f : Nat → Int64) (K : Int32) (j : Nat) : Prop := ¬ nI (ptr f (plE f j)) < K
def BL (f : Nat → Int64) (K : Int32) (i : Nat) (L : Nat → Int64) : Prop := ∀ u, u < 40 → ∀ v, v < 64 → (gb (L u) v = true ↔ ∃ j, j < i ∧ tOK f K j ∧ ((plE f j / 40 = u ∧ plE f j % 40 = v) ∨ (plE f j / 40 = v ∧ plE f j % 40 = u)))
theorem inT_iff {f : Nat → Int64} {K : Int32} {e : Nat} : inT f K e = true ↔ isE f e = true ∧ ¬ nI (ptr f e) < K := by
  unfold inT
  rw [Bool.and_eq_true, decide_eq_true_iff]
section PIECES
variable {d : Nat} {f : Nat → Int64} {K : Int32}
theorem BL_skip {i : Nat} {L : Nat → Int64} (h : BL f K i L) (hn : ¬ tOK f K i) : BL f K (i + 1) L := by
  intro u hu v hv
  rw [h u hu v hv]
  constructor
  · rintro ⟨j, j1, j2, j3⟩
    exact ⟨j, by omega, j2, j3⟩
  · rintro ⟨j, j1, j2, j3⟩
    by_cases e : j = i
    · rw [e] at j2; exact absurd j2 hn
    · exact ⟨j, by omega, j2, j3⟩
theorem BL_add {i a b : Nat} {L L' : Nat → Int64} (h : BL f K i L) (hy : tOK f K i) (ha : plE f i / 40 = a) (hb : plE f i % 40 = b) (ha4 : a < 40) (hb4 : b < 40) (hab : a ≠ b) (hL : L' = va_up (va_up L a (L a ||| one b)) b (L b ||| one a)) : BL f K (i + 1) L' := by
  intro u hu v hv
  have e : gb (L' u) v = true ↔ gb (L u) v = true ∨ (u = a ∧ v = b) ∨ (u = b ∧ v = a) := by
    rw [hL]
    by_cases e1 : u = b
    · subst e1
      rw [va_up_self, gb_or, gb_one (by omega), Bool.or_eq_true, decide_eq_true_iff]
      constructor
      · rintro (q | q)
        · exact Or.inl q
        · exact Or.inr (Or.inr ⟨rfl, q⟩)
      · rintro (q | ⟨q, _⟩ | ⟨_, q⟩)
        · exact Or.inl q
        · exact absurd q.symm hab
        · exact Or.inr q
    · rw [va_up_ne _ _ e1]
      by_cases e2 : u = a
      · subst e2
        rw [va_up_self, gb_or, gb_one (by omega), Bool.or_eq_true, decide_eq_true_iff]
        constructor
        · rintro (q | q)
          · exact Or.inl q
          · exact Or.inr (Or.inl ⟨rfl, q⟩)
        · rintro (q | ⟨_, q⟩ | ⟨q, _⟩)
          · exact Or.inl q
          · exact Or.inr q
          · exact absurd q e1
      · rw [va_up_ne _ _ e2]
        constructor
        · exact Or.inl
        · rintro (q | ⟨q, _⟩ | ⟨q, _⟩)
          · exact q
          · exact absurd q e2
          · exact absurd q e1
  rw [e, h u hu v hv]
  constructor
  · rintro (⟨j, j1, j2, j3⟩ | ⟨q1, q2⟩ | ⟨q1, q2⟩)
    · exact ⟨j, by omega, j2, j3⟩
    · exact ⟨i, by omega, hy, Or.inl ⟨by omega, by omega⟩⟩
    · exact ⟨i, by omega, hy, Or.inr ⟨by omega, by omega⟩⟩
  · rintro ⟨j, j1, j2, j3⟩
    by_cases z : j = i
    · subst z
      rcases j3 with ⟨q1, q2⟩ | ⟨q1, q2⟩
      · exact Or.inr (Or.inl ⟨by omega, by omega⟩)
      · exact Or.inr (Or.inr ⟨by omega, by omega⟩)
    · exact Or.inl ⟨j, by omega, j2, j3⟩
theorem BL_VA (hf : GF f) {L : Nat → Int64} (h : BL f K (ecn f) L) {u v : Nat} (hu : u < 40) (hv : v < 64) : gb (L u) v = true ↔ VA f K u v := by
  rw [h u hu v hv]
  constructor
  · rintro ⟨j, j1, j2, j3⟩
    have h1 := plE_edge hf j1
    have h2 := (plE_ok hf j1).1
    have h3 := (isE_b h1).1
    have hT : inT f K (plE f j) = true := inT_iff.mpr ⟨h1, j2⟩
    have hp : pr u v = plE f j := by
      unfold pr
      rcases j3 with ⟨q1, q2⟩ | ⟨q1, q2⟩ <;> omega
    exact ⟨hu, by rcases j3 with ⟨q1, q2⟩ | ⟨q1, q2⟩ <;> omega, by rcases j3 with ⟨q1, q2⟩ | ⟨q1, q2⟩ <;> omega, by rw [hp]; exact hT⟩
  · rintro ⟨h1, h2, h3, h4⟩
    obtain ⟨k1, k2⟩ := inT_iff.mp h4
    obtain ⟨j, j1, j2⟩ := pl_all hf (pr_lt h1 h2) k1
    refine ⟨j, j1, ?_, ?_⟩
    · unfold tOK
      rw [← j2]; exact k2
    · rw [← j2]
      unfold pr
      omega
theorem c_buildLeft {Q : Option Value → AH → Prop} {h0 : AH} (hf : GF f) (hP : PLF f h0) (Kf : ∀ g, zWF g → BL f K (ecn f) (g.L 14) → frm [] [14] h0 g → zQ none m_X6_piecesFrom (d + 3) 85 [(0, .ref 12), (2, .long 0), (4, .int (nI 0)), (5, .int (nI 0))] [] g Q) : ∀ i, i ≤ ecn f → ∀ g, zWF g → BL f K i (g.L 14) → frm [] [14] h0 g → zQ none m_X6_piecesFrom (d + 3) 10 [(0, .ref 12), (1, .int K), (2, .int (nI i))] [] g Q := by
  obtain ⟨p1, p2, p3⟩ := hP
  have hm := ecn_le f
  refine nat_down ?_ (fun i hi ih => ?_)
  · intro g hw q fr
    have g8 : g.I 12 8 = nI (ecn f) := by rw [frm_I fr List.not_mem_nil]; exact p2
    exact r_X6_piecesFrom_10 _ _ hw ⟨fun _ => Kf g hw q fr, fun z => absurd (by rw [g8]; exact (nI_leE (by omega) (by omega)).mpr (Nat.le_refl _)) z⟩
  · intro g hw q fr
    obtain ⟨a1, a2, a3⟩ := p3 i hi
    have hb := (plE_ok hf hi).1
    have hlt := (isE_b (plE_edge hf hi)).1
    have g8 : g.I 12 8 = nI (ecn f) := by rw [frm_I fr List.not_mem_nil]; exact p2
    refine r_X6_piecesFrom_10 _ _ hw ⟨fun z => absurd (by rw [g8] at z; exact (nI_leE (by omega) (by omega)).mp z) (show ¬ ecn f ≤ i by omega), fun _ => ⟨v780 (by omega), ?_⟩⟩
    rw [cl_n (show i < 780 by omega) (by decide), frm_I fr (k := 18) List.not_mem_nil, frm_I fr (k := 16) List.not_mem_nil, a3, cl_n hb (by decide), a1, ← ptr_at hf hi, nI_add, nI_remE (by omega) (by decide) (by decide), nI_divE (by omega) (by decide) (by decide)]
    refine ⟨v1600 hb, fun z => ih g hw (BL_skip q (fun y => y z)) fr, fun z => ⟨vi40 (by omega), vi40 (by omega), fun h7 q7 => ⟨vi40 (by omega), vi40 (by omega), fun h10 q10 => ?_⟩⟩⟩
    rw [cl40 (show plE f i / 40 < 40 by omega)] at q7
    change h7 = g.sL 14 (plE f i / 40) (g.L 14 (plE f i / 40) ||| one (plE f i % 40)) at q7
    have x7 : h7.L 14 = va_up (g.L 14) (plE f i / 40) (g.L 14 (plE f i / 40) ||| one (plE f i % 40)) := by rw [q7, AH.sL_L]
    rw [cl40 (show plE f i % 40 < 40 by omega), x7, va_up_ne _ _ (show plE f i % 40 ≠ plE f i / 40 by omega)] at q10
    change h10 = h7.sL 14 (plE f i % 40) (g.L 14 (plE f i % 40) ||| one (plE f i / 40)) at q10
    exact ih h10 (wf_L q10 (wf_L q7 hw)) (BL_add q z rfl rfl (by omega) (by omega) (by omega) (by rw [q10, AH.sL_L, x7])) (frm_tr fr (frm_tr (frm_wL q7 (by decide)) (frm_wL q10 (by decide))))
theorem c_pieceOf {h : AH} {v : Nat} (hf : GF f) (hw : zWF h) (hL : BL f K (ecn f) (h.L 14)) (hv : v < 40) : zK (d + 2) m_X6_pieceOf [.ref 12, .int (nI v)] h (pL h (fun W => ∀ w, gb W w = true ↔ w < 40 ∧ Cn (VA f K) v w)) := by
  refine r_X6_pieceOf_0 _ hw ?_
  change zQ none m_X6_pieceOf (d + 2) 7 [(0, .ref 12), (2, .long (one v)), (4, .int (nI 1))] [] h _
  have key : ∀ n i, n + i = 40 → 1 ≤ i → ∀ P, gb P v = true → (∀ w, gb P w = true → w < 40 ∧ Cn (VA f K) v w) → i ≤ pc P → zQ none m_X6_pieceOf (d + 1 + 1) 7 [(0, .ref 12), (2, .long P), (4, .int (nI i))] [] h (pL h (fun W => ∀ w, gb W w = true ↔ w < 40 ∧ Cn (VA f K) v w)) := by
    intro n
    induction n with
    | zero =>
      intro i hi _ P h1 h2 h3
      rw [Nat.zero_add] at hi
      subst hi
      refine r_X6_pieceOf_7 _ _ hw ⟨fun _ => ⟨P, rfl, rfl, fun w => ⟨h2 w, fun ⟨q, _⟩ => ?_⟩⟩, fun z => absurd e40 z⟩
      cases z : gb P w with
      | true => rfl
      | false =>
        have sb : sub P AV := fun k hk => by rw [gb_AV]; exact decide_eq_true (h2 k hk).1
        have := pc_lt sb (v := w) (by omega) (by rw [gb_AV]; exact decide_eq_true q) z
        rw [pc_AV] at this
        omega
    | succ n ih =>
      intro i hi hi1 P h1 h2 h3
      refine r_X6_pieceOf_7 _ _ hw ⟨fun z => absurd z (n40 (by omega)), fun _ => use_pL (c_nearAny P (sh_14 hw)) ⟨fun z => ?_, fun z => ?_⟩⟩
      · rw [ne_eq, lg_cmp0] at z
        rw [nI_add]
        have sb : sub P (P ||| nAny (h.L 14) P) := fun k hk => by rw [gb_or, hk]; rfl
        have ex : ∃ k, gb (P ||| nAny (h.L 14) P) k = true ∧ gb P k = false := by
          apply Classical.byContradiction
          intro q
          refine z (sub_eq (fun k hk => ?_) sb)
          cases y : gb P k with
          | true => rfl
          | false => exact absurd ⟨k, hk, y⟩ q
        obtain ⟨k, k1, k2⟩ := ex
        have hk64 : k < 64 := by
          apply Classical.byContradiction
          intro q
          rw [gb_ge (by omega)] at k1
          cases k1
        have lt := pc_lt sb hk64 k1 k2
        refine ih (i + 1) (by omega) (by omega) _ (sb v h1) (fun w hw2 => ?_) (by omega)
        rw [gb_or, Bool.or_eq_true, gb_nAny] at hw2
        rcases hw2 with q | ⟨q1, a, q2, q3⟩
        · exact h2 w q
        · have ha : a < 64 := by
            apply Classical.byContradiction
            intro q
            rw [gb_ge (by omega)] at q2
            cases q2
          have hva := (BL_VA hf hL q1 ha).mp q2
          exact ⟨q1, Cn_tr (h2 a q3).2 (Cn_st (VA_sy f K w a hva))⟩
      · rw [lg_cmp0] at z
        refine ⟨P, rfl, rfl, fun w => ⟨h2 w, fun ⟨_, q⟩ => ?_⟩⟩
        refine q (fun y => gb P y = true) (fun x y hxy hx => ?_) h1
        rw [← z, gb_or, Bool.or_eq_true, gb_nAny]
        exact Or.inr ⟨hxy.2.1, x, (BL_VA hf hL hxy.2.1 (by have := hxy.1; omega)).mpr (VA_sy f K x y hxy), hx⟩
  refine key 39 1 rfl (Nat.le_refl _) (one v) (by rw [gb_one (by omega)]; exact decide_eq_true rfl) (fun w hw2 => ?_) ?_
  · rw [gb_one (by omega), decide_eq_true_iff] at hw2
    subst hw2
    exact ⟨hv, Cn_rf⟩
  · have : pc 0 < pc (one v) := pc_lt (fun i hi => by rw [gb_0] at hi; cases hi) (v := v) (by omega) (by rw [gb_one (by omega)]; exact decide_eq_true rfl) (gb_0 v)
    omega
theorem c_pieLoop {h : AH} (hf : GF f) (hw : zWF h) (hL : BL f K (ecn f) (h.L 14)) {P : Int32 → AH → Prop} (KP : P (nI (pieN f K 40)) h) : zQ none m_X6_piecesFrom (d + 3) 85 [(0, .ref 12), (2, .long 0), (4, .int (nI 0)), (5, .int (nI 0))] [] h (kI P) := by
  have key : ∀ v, v ≤ 40 → ∀ T, (∀ w, gb T w = true ↔ w < 40 ∧ ∃ u, u < v ∧ hsC f K u 40 = true ∧ Cn (VA f K) u w) → zQ none m_X6_piecesFrom (d + 2 + 1) 85 [(0, .ref 12), (2, .long T), (4, .int (nI (pieN f K v))), (5, .int (nI v))] [] h (kI P) := by
    refine nat_down ?_ (fun v hv ih => ?_)
    · intro T _
      exact r_X6_piecesFrom_85 _ _ _ hw ⟨fun _ => mk_kI hw KP, fun z => absurd e40 z⟩
    · intro T hT
      have es : pieN f K (v + 1) = pieN f K v + (if hsC f K v 40 && rtB (VA f K) v then 1 else 0) := rfl
      refine r_X6_piecesFrom_85 _ _ _ hw ⟨fun z => absurd z (n40 hv), fun _ => ⟨vi40 hv, ?_⟩⟩
      rw [cl40 hv, nI_add, nI_add]
      refine ⟨fun z => ?_, fun z => use_pI (c_hasBit (by omega)) ⟨fun y => ?_, fun y => ?_⟩⟩
      · rw [lg_cmp0] at z
        have hn : hsC f K v 40 = false := by
          cases q : hsC f K v 40 with
          | false => rfl
          | true =>
            obtain ⟨w, hwv⟩ := (hsC_VA hv).mp q
            have := (BL_VA hf hL hv (by have := hwv.2.1; omega)).mpr hwv
            rw [z, gb_0] at this
            cases this
        have e2 : pieN f K (v + 1) = pieN f K v := by rw [es, hn]; rfl
        rw [e2] at ih
        refine ih T (fun w => ?_)
        rw [hT]
        constructor
        · rintro ⟨q1, u, q2, q3, q4⟩
          exact ⟨q1, u, by omega, q3, q4⟩
        · rintro ⟨q1, u, q2, q3, q4⟩
          refine ⟨q1, u, ?_, q3, q4⟩
          by_cases e : u = v
          · rw [e, hn] at q3; cases q3
          · omega
      · have yt : gb T v = true := bT y
        obtain ⟨_, u, u1, u2, u3⟩ := (hT v).mp yt
        have hn : rtB (VA f K) v = false := by
          cases q : rtB (VA f K) v with
          | false => rfl
          | true =>
            have := (rtB_iff.mp q) u (Cn_sy (VA_sy f K) u3)
            omega
        have e2 : pieN f K (v + 1) = pieN f K v := by rw [es, hn, Bool.and_false]; rfl
        rw [e2] at ih
        refine ih T (fun w => ?_)
        rw [hT]
        constructor
        · rintro ⟨q1, u, q2, q3, q4⟩
          exact ⟨q1, u, by omega, q3, q4⟩
        · rintro ⟨q1, u', q2, q3, q4⟩
          by_cases e : u' = v
          · subst e
            exact ⟨q1, u, u1, u2, Cn_tr u3 q4⟩
          · exact ⟨q1, u', by omega, q3, q4⟩
      · have yf : gb T v = false := bF y
        refine zK_mono (c_pieceOf (d := d) hf hw hL hv) (fun r h' ⟨W, w1, w2, w3⟩ => ⟨W, w1, w2, ?_⟩)
        have hs : hsC f K v 40 = true := by
          rw [hsC_VA hv]
          rw [lg_cmp0n] at z
          obtain ⟨k, hk⟩ := ne0_iff.mp z
          have hk64 : k < 64 := by
            apply Classical.byContradiction
            intro q
            rw [gb_ge (by omega)] at hk
            cases hk
          exact ⟨k, (BL_VA hf hL hv hk64).mp hk⟩
        have hr : rt (VA f K) v := by
          intro y2 hy
          apply Classical.byContradiction
          intro q
          have hy40 := Cn_lt (VA_lt f K) hv hy
          have hy3 := Cn_sy (VA_sy f K) hy
          rcases Cn_last hy with e | ⟨x, hx⟩
          · omega
          · have : gb T v = true := (hT v).mpr ⟨hv, y2, by omega, (hsC_VA hy40).mpr ⟨x, VA_sy f K x y2 hx⟩, hy3⟩
            rw [yf] at this
            cases this
        have e2 : pieN f K (v + 1) = pieN f K v + 1 := by rw [es, hs, rtB_iff.mpr hr]; rfl
        rw [e2] at ih
        refine ih (T ||| W) (fun w => ?_)
        rw [gb_or, Bool.or_eq_true, hT, w3]
        constructor
        · rintro (⟨q1, u, q2, q3, q4⟩ | ⟨q1, q2⟩)
          · exact ⟨q1, u, by omega, q3, q4⟩
          · exact ⟨q1, v, by omega, hs, q2⟩
        · rintro ⟨q1, u, q2, q3, q4⟩
          by_cases e : u = v
          · subst e
            exact Or.inr ⟨q1, q4⟩
          · exact Or.inl ⟨q1, u, by omega, q3, q4⟩
  exact key 0 (Nat.zero_le _) 0 (fun w => ⟨fun q => (by rw [gb_0] at q; cases q), fun ⟨_, u, q, _⟩ => absurd q (Nat.not_lt_zero _)⟩)
theorem c_piecesFrom {h : AH} (hf : GF f) (hw : zWF h) (hP : PLF f h) : zK (d + 3) m_X6_piecesFrom [.ref 12, .int K] h (kI (fun x h' => x = nI (pieN f K 40) ∧ frm [] [14] h h')) := by
  refine r_X6_piecesFrom_0 _ hw (use_kV (c_fillL 0 hw (by decide) (sh_14 hw)) (fun h1 hw1 ⟨g, e1, e2, _⟩ => ?_))
  have f1 : frm [] [14] h h1 := frm_wL e1 (by decide)
  refine c_buildLeft hf hP (fun g hg q fr => c_pieLoop hf hg q ⟨rfl, fr⟩) 0 (Nat.zero_le _) h1 hw1 (fun u hu v hv => ?_) f1
  rw [e1, AH.wL_L, e2 u hu, gb_0]
  exact ⟨(fun q => by cases q), fun ⟨j, j1, _⟩ => absurd j1 (Nat.not_lt_zero _)⟩
end PIECES
