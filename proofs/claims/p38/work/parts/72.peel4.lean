section PEELC
variable {d : Nat} {f : Nat → Int64}
def plr : List Nat := [15, 16, 17, 18]
theorem swp {o : Nat → Nat} {t p i : Nat} (h : i ≠ t) : va_up (va_up o p (o t)) t (o p) i = if i = p then o t else o i := by
  rw [va_up_ne _ _ h]
  by_cases e : i = p
  · rw [e, va_up_self, if_pos rfl]
  · rw [va_up_ne _ _ e, if_neg e]
theorem oIn_s (hf : GF f) {t p : Nat} {o : Nat → Nat} (ht : t < ecn f) (h : oIn f t o) (hp1 : t ≤ p) (hp2 : p < ecn f) (hE : o p = plE f t) : oIn f (t + 1) (va_up (va_up o p (o t)) t (o p)) := by
  obtain ⟨h1, h2, h3⟩ := h
  refine ⟨fun i i1 i2 => ?_, fun e he he2 => ?_, fun i j i1 i2 j1 j2 hij => ?_⟩
  · rw [swp (by omega)]
    by_cases e : i = p
    · rw [if_pos e]
      have a := h1 t (Nat.le_refl _) ht
      refine ⟨a.1, ?_⟩
      rw [pl_step hf ht a.1, a.2, Bool.true_and, decide_eq_true_iff, ← hE]
      exact fun q => by have := h3 t p (Nat.le_refl _) ht hp1 hp2 q; omega
    · rw [if_neg e]
      have a := h1 i (by omega) i2
      refine ⟨a.1, ?_⟩
      rw [pl_step hf ht a.1, a.2, Bool.true_and, decide_eq_true_iff, ← hE]
      exact fun q => by have := h3 i p (by omega) i2 hp1 hp2 q; omega
  · rw [pl_step hf ht he, Bool.and_eq_true, decide_eq_true_iff] at he2
    obtain ⟨i, i1, i2, i3⟩ := h2 e he he2.1
    by_cases z : i = t
    · refine ⟨p, ?_, hp2, ?_⟩
      · have : p ≠ t := fun q => he2.2 (by rw [← i3, z, ← hE, q])
        omega
      · rw [swp (fun q => he2.2 (by rw [← i3, z, ← hE, q])), if_pos rfl, ← z]; exact i3
    · refine ⟨i, by omega, i2, ?_⟩
      rw [swp z, if_neg (fun q => he2.2 (by rw [← i3, q, hE]))]
      exact i3
  · rw [swp (by omega), swp (by omega)] at hij
    by_cases e : i = p
    · by_cases e2 : j = p
      · omega
      · rw [if_pos e, if_neg e2] at hij
        have := h3 t j (Nat.le_refl _) ht (by omega) j2 hij
        omega
    · by_cases e2 : j = p
      · rw [if_neg e, if_pos e2] at hij
        have := h3 i t (by omega) i2 (Nat.le_refl _) ht hij
        omega
      · rw [if_neg e, if_neg e2] at hij
        exact h3 i j (by omega) i2 (by omega) j2 hij
theorem c_peelLoop (hf : GF f) : ∀ n t, n + t = ecn f → ∀ (h : AH) (o : Nat → Nat), zWF h → (∀ k, k < 40 → h.L 14 k = plG f t k) → h.I 12 8 = nI (ecn f) → (∀ i, i < ecn f → h.I 18 i = nI (o i)) → oIn f t o → (∀ e, e < 1600 → isE (plG f t) e = true → h.I 15 e = nI (sup (plG f t) e)) → PF f t (h.I 16) (h.I 17) (h.I 18) → zQ none m_X6_peel (d + 3) 4 [(0, .ref 12), (1, .int (nI (plM f t + 2))), (2, .int (nI t))] [] h (kV (fun h' => h'.I 12 8 = nI (ecn f) ∧ PF f (ecn f) (h'.I 16) (h'.I 17) (h'.I 18) ∧ frm plr [14] h h')) := by
  intro n
  have hm := ecn_le f
  induction n with
  | zero =>
    intro t ht h o hw hl h8 ho hoI h15 hP
    rw [Nat.zero_add] at ht
    refine r_X6_peel_4 _ _ hw ⟨fun _ => mk_kV hw ⟨h8, ht ▸ hP, frm_rf⟩, fun z => absurd (by rw [h8, ht]; exact (nI_leE (by omega) (by omega)).mpr (Nat.le_refl _)) z⟩
  | succ n ih =>
    intro t ht h o hw hl h8 ho hoI h15 hP
    have htl : t < ecn f := by omega
    obtain ⟨hb, hE, hlx⟩ := plE_ok hf htl
    have hfg := (pl_inv hf t (by omega)).1
    obtain ⟨hlt, hgb⟩ := isE_b hE
    have hM := plM_le f t
    have hM1 := plM_le f (t + 1)
    have hS := sup_le (plG f t) (plE f t)
    obtain ⟨o1, o2, o3⟩ := hoI
    refine r_X6_peel_4 _ _ hw ⟨fun z => absurd (by rw [h8] at z; exact (nI_leE (by omega) (by omega)).mp z) (show ¬ ecn f ≤ t by omega), fun _ => ?_⟩
    refine zK_mono (c_leastFrom (d := d + 1) (g := plG f t) hm htl hw h8 ho (fun i i1 i2 => (o1 i i1 i2).1) (fun i i1 i2 => h15 _ (o1 i i1 i2).1 (o1 i i1 i2).2)) (fun r h' ⟨x, e1, e2, p, e3, p1, p2, p3⟩ => ⟨x, e1, e2, ?_⟩)
    subst e3
    have hop : o p = plE f t := by
      refine lst_uq (o1 p p1 p2).1 (o1 p p1 p2).2 (fun e he hE => ?_)
      obtain ⟨j, j1, j2, j3⟩ := o2 e he hE
      rw [← j3]; exact p3 j j1 j2
    have c1 : (nI p).toNatClampNeg = p := cl_n (show p < 780 by omega) (by decide)
    have c2 : (nI t).toNatClampNeg = t := cl_n (show t < 780 by omega) (by decide)
    have c3 : (nI (plE f t)).toNatClampNeg = plE f t := cl_n hb (by decide)
    rw [c1, c2, ho p p2, ho t htl, hop, c3]
    refine ⟨v780 (by omega), v780 (by omega), v780 (by omega), fun h6 q6 => ⟨v780 (by omega), fun h8' q8 => ⟨v1600 hb, v1600 hb, fun h11 q11 => ⟨v1600 hb, fun h13 q13 => ?_⟩⟩⟩⟩
    have hw13 := wf_I q13 (wf_I q11 (wf_I q8 (wf_I q6 hw)))
    have x15 : h8'.I 15 = h.I 15 := by rw [sI_r q8 (by decide), sI_r q6 (by decide)]
    have xt : zmmax (nI (plM f t + 2)) (h8'.I 15 (plE f t) + nI 2) = nI (plM f (t + 1) + 2) := by
      rw [x15, h15 _ hb hE, nI_add, zmmax_n (by omega) (by omega), plM_s]
      congr 1; omega
    rw [xt] at q11 ⊢
    have f13 : frm plr [14] h h13 := frm_tr (frm_wI q6 (by decide)) (frm_tr (frm_wI q8 (by decide)) (frm_tr (frm_wI q11 (by decide)) (frm_wI q13 (by decide))))
    have l13 : ∀ k, k < 40 → h13.L 14 k = plG f t k := fun k hk => by rw [q13, q11, q8, q6]; exact hl k hk
    have y18 : h13.I 18 = va_up (va_up (h.I 18) p (nI (o t))) t (nI (plE f t)) := by
      rw [sI_r q13 (by decide), sI_r q11 (by decide), q8, AH.sI_I, q6, AH.sI_I]
    have y15 : h13.I 15 = h.I 15 := by rw [sI_r q13 (by decide), sI_r q11 (by decide)]; exact x15
    have y8 : h13.I 12 8 = nI (ecn f) := by rw [sI_r q13 (by decide), sI_r q11 (by decide), sI_r q8 (by decide), sI_r q6 (by decide)]; exact h8
    have P18 : PF f (t + 1) (h13.I 16) (h13.I 17) (h13.I 18) := by
      have P0 : PF f t (h.I 16) (h.I 17) (va_up (h.I 18) p (nI (o t))) := fun s hs => by
        have := hP s hs
        rw [va_up_ne _ _ (show s ≠ p by omega)]
        exact this
      refine PF_s (x := nI (plE f t)) hf htl P0 ?_ ?_ y18 rfl
      · rw [sI_r q13 (by decide), q11, AH.sI_I, sI_r q8 (by decide), sI_r q6 (by decide)]
      · rw [q13, AH.sI_I, sI_r q11 (by decide), sI_r q8 (by decide), sI_r q6 (by decide)]
    rw [nI_remE (by omega) (by decide) (by decide), nI_divE (by omega) (by decide) (by decide)]
    refine use_kV (c_takeAway (d := d) hw13 hfg l13 (by omega) (by omega) (by omega) hgb) (fun h14 hw14 ⟨a1, a2, a3⟩ => ?_)
    rw [nI_add]
    refine zq_mono (ih (t + 1) (by omega) h14 (va_up (va_up o p (o t)) t (o p)) hw14 (fun k hk => by rw [plG_s]; exact a1 k hk) (by rw [frm_I a3 (by decide)]; exact y8) (fun i hi => ?_) (oIn_s hf htl ⟨o1, o2, o3⟩ p1 p2 hop) (fun e he hE2 => ?_) ?_) (fun r h' ⟨r1, r2, r3, r4, r5⟩ => ⟨r1, r2, r3, r4, frm_tr f13 (frm_tr (frm_up a3 (by decide) (by decide)) r5)⟩)
    · rw [frm_I a3 (by decide), y18]
      by_cases z : i = t
      · rw [z, va_up_self, va_up_self, hop]
      · rw [swp z, va_up_ne _ _ z]
        by_cases z2 : i = p
        · rw [z2, va_up_self, if_pos rfl]
        · rw [va_up_ne _ _ z2, if_neg z2]; exact ho i hi
    · have hd := sup_dc hfg hb hE he hE2
      have hE0 : isE (plG f t) e = true := by
        rw [pl_step hf htl he, Bool.and_eq_true] at hE2
        exact hE2.1
      rw [a2 e he, y15, h15 e he hE0, ← hd, nI_subE (Nat.le_add_left _ _), Nat.add_sub_cancel]
      rfl
    · rw [frm_I a3 (by decide), frm_I a3 (by decide), frm_I a3 (by decide)]; exact P18
/-- the peeling that the class keeps -/
def PLF (f : Nat → Int64) (h : AH) : Prop := (∀ k, k < 40 → h.L 13 k = f k) ∧ h.I 12 8 = nI (ecn f) ∧ PF f (ecn f) (h.I 16) (h.I 17) (h.I 18)
def PEEL (h : AH) : Prop := ∃ f, GF f ∧ PLF f h
theorem PEEL_frm {SI SL : List Nat} {h h' : AH} (a : frm SI SL h h') (h1 : ∀ k ∈ [12, 16, 17, 18], k ∉ SI) (h2 : 13 ∉ SL) (q : PEEL h) : PEEL h' := by
  obtain ⟨f, q1, q2, q3, q4⟩ := q
  refine ⟨f, q1, fun k hk => by rw [frm_L a h2]; exact q2 k hk, by rw [frm_I a (h1 12 (by decide))]; exact q3, ?_⟩
  rw [frm_I a (h1 16 (by decide)), frm_I a (h1 17 (by decide)), frm_I a (h1 18 (by decide))]
  exact q4
theorem GF_ext {f g : Nat → Int64} (hf : GF f) (hg : GF g) (e : ∀ k, k < 40 → f k = g k) : f = g := by
  funext k
  by_cases hk : k < 40
  · exact e k hk
  · rw [GF_0 hf (by omega), GF_0 hg (by omega)]
def pfI : List Nat := [12, 15, 16, 17, 18]
def pfL : List Nat := [13, 14]
theorem c_peelAll {h : AH} (hf : GF f) (hw : zWF h) (hs : ∀ k, k < 40 → h.L 13 k = f k) : zK (d + 4) m_X6_gather [.ref 12] h (kV fun h5 => zK (d + 4) m_X6_peel [.ref 12] h5 (kV (fun h' => PLF f h' ∧ frm pfI pfL h h'))) := by
  refine use_kV (c_gather hw hs) (fun h5 hw5 ⟨a1, a2, a3⟩ => ?_)
  obtain ⟨o, o1, o2⟩ := gIn_o a1
  refine r_X6_peel_0 hw5 (zq_mono (c_peelLoop (d := d + 1) hf (ecn f) 0 (Nat.add_zero _) h5 o hw5 a2 a1.1 o1 o2 (fun e he hE => (a1.2 e he hE).2) (PF_0 _ _ _ _)) (fun r h' ⟨r1, r2, r3, r4, r5⟩ => ⟨r1, r2, ⟨fun k hk => ?_, r3, r4⟩, frm_tr (frm_up a3 (by decide) (by decide)) (frm_up r5 (by decide) (by decide))⟩))
  rw [frm_L r5 (by decide), frm_L a3 (by decide)]; exact hs k hk
theorem c_follow {h : AH} (hf : GF f) (hw : zWF h) (e3 : h.L 3 = f) (hP : PEEL h) : zK (d + 5) m_X6_follow [.ref 12, .ref 3] h (kV (fun h' => PLF f h' ∧ frm pfI pfL h h')) := by
  obtain ⟨g, hg, p1, p2, p3⟩ := hP
  refine r_X6_follow_0 hw ?_
  have key : ∀ i, i ≤ 40 → ∀ b, (b = true → ∀ v, v < i → h.L 13 v = f v) → zQ none m_X6_follow (d + 4 + 1) 4 [(0, .ref 12), (1, .ref 3), (2, .int (bI b)), (3, .int (nI i))] [] h (kV (fun h' => PLF f h' ∧ frm pfI pfL h h')) := by
    refine nat_down ?_ (fun i hi ih => ?_)
    · intro b hb
      refine r_X6_follow_4 _ _ hw ⟨fun _ => ⟨fun z => ?_, fun _ => ⟨⟨by decide, by decide, by decide, by decide, by decide⟩, fun h4 q4 => ?_⟩⟩, fun z => absurd e40 z⟩
      · have hb2 := hb (bTb z)
        have e : g = f := GF_ext hg hf (fun k hk => by rw [← p1 k hk]; exact hb2 k hk)
        subst e
        exact mk_kV hw ⟨⟨p1, p2, p3⟩, frm_rf⟩
      · rw [k0, cl_40, e3] at q4
        have f4 : frm pfI pfL h h4 := frm_wL q4 (by decide)
        refine use_kV (c_peelAll hf (wf_L q4 hw) (fun k hk => by rw [q4, AH.wL_L, cpy0 hk])) (fun h5 hw5 K => use_kV K (fun h6 hw6 ⟨a1, a2⟩ => mk_kV hw6 ⟨a1, frm_tr f4 a2⟩))
    · intro b hb
      refine r_X6_follow_4 _ _ hw ⟨fun z => absurd z (n40 hi), fun _ => ⟨fun _ => ?_, fun z => ⟨vi40 hi, vi40 hi, ?_⟩⟩⟩
      · rw [nI_add]
        exact ih false (fun q => by cases q)
      · rw [cl40 hi, nI_add, e3]
        refine ⟨fun y => ih false (fun q => by cases q), fun y => ih true (fun _ v hv => ?_)⟩
        rw [lg_cmp0] at y
        by_cases e : v = i
        · rw [e]; exact y
        · exact hb (bTb z) v (by omega)
  exact key 0 (Nat.zero_le _) true (fun _ v hv => absurd hv (Nat.not_lt_zero _))
end PEELC
