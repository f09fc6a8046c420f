theorem AH.sL_L {h : AH} {k j : Nat} {x : Int64} : (h.sL k j x).L k = va_up (h.L k) j x := AH.wL_L
theorem AH.sI_I {h : AH} {k j : Nat} {x : Int32} : (h.sI k j x).I k = va_up (h.I k) j x := AH.wI_I
theorem or_xor {x : Int64} {k : Nat} (hk : k < 64) (h : gb x k = false) : x ||| one k = x ^^^ one k := gb_ext (fun i hi => by
  rw [gb_or, gb_xor, gb_one hk]
  by_cases e : i = k
  · subst e; rw [h]; simp
  · simp [e])
theorem andn_xor {x : Int64} {k : Nat} (hk : k < 64) (h : gb x k = true) : x &&& (one k ^^^ (-1)) = x ^^^ one k := gb_ext (fun i hi => by
  rw [gb_and, gb_not1 hk hi, gb_xor, gb_one hk]
  by_cases e : i = k
  · subst e; rw [h]; simp
  · simp [e])
theorem gb_flip {f : Nat → Int64} {u v a b : Nat} (huv : u ≠ v) (hu : u < 64) (hv : v < 64) : gb (flip f u v a) b = (gb (f a) b ^^ decide ((a = u ∧ b = v) ∨ (a = v ∧ b = u))) := by
  unfold flip
  by_cases h2 : a = v
  · subst h2
    rw [va_up_self, gb_xor, gb_one hu]
    have : ¬ a = u := fun q => huv q.symm
    simp [this]
  · rw [va_up_ne _ _ h2]
    by_cases h1 : a = u
    · subst h1
      rw [va_up_self, gb_xor, gb_one hv]
      simp [h2]
    · rw [va_up_ne _ _ h1]
      simp [h1, h2]
theorem pr_inj {a b u v : Nat} (ha : a < 40) (hb : b < 40) (hu : u < 40) (hv : v < 40) (h : pr a b = pr u v) : (a = u ∧ b = v) ∨ (a = v ∧ b = u) := by
  unfold pr at h
  omega
theorem nI_maxE {sp : Nat} (h : sp ≤ 1600) : zmmax (nI 1) (nI sp / nI 2 - nI 1) = nI (max 1 (sp / 2 - 1)) := by
  rw [nI_divE (by omega) (by decide) (by decide)]
  by_cases h0 : sp / 2 = 0
  · rw [h0]; decide
  · rw [nI_subE (by omega), zmmax_n (by decide) (by omega)]
section CNET2
variable {d : Nat} {h : AH} {s : NS}
theorem w_flip {f : Nat → Int64} {I w : Nat → Int32} {u v : Nat} {x : Int32} (huv : u ≠ v) (hu : u < 40) (hv : v < 40) (h : ∀ a b, a < 40 → b < 40 → gb (f a) b = true → I (pr a b) = w (pr a b)) : ∀ a b, a < 40 → b < 40 → gb (flip f u v a) b = true → va_up I (pr u v) x (pr a b) = va_up w (pr u v) x (pr a b) := by
  intro a b ha hb hg
  by_cases e : pr a b = pr u v
  · rw [e, va_up_self, va_up_self]
  · rw [va_up_ne _ _ e, va_up_ne _ _ e]
    apply h a b ha hb
    rw [gb_flip huv (by omega) (by omega)] at hg
    rw [decide_eq_false, Bool.xor_false] at hg
    · exact hg
    · rintro (⟨rfl, rfl⟩ | ⟨rfl, rfl⟩)
      · exact e rfl
      · exact e (pr_comm _ _)
theorem w_flip2 {f : Nat → Int64} {I w : Nat → Int32} {u v : Nat} (huv : u ≠ v) (hu : u < 40) (hv : v < 40) (hg0 : gb (f u) v = true) (hs : ∀ a b, gb (f a) b = gb (f b) a) (h : ∀ a b, a < 40 → b < 40 → gb (f a) b = true → I (pr a b) = w (pr a b)) : ∀ a b, a < 40 → b < 40 → gb (flip f u v a) b = true → I (pr a b) = w (pr a b) := by
  intro a b ha hb hg
  apply h a b ha hb
  rw [gb_flip huv (by omega) (by omega)] at hg
  by_cases e : (a = u ∧ b = v) ∨ (a = v ∧ b = u)
  · rcases e with ⟨rfl, rfl⟩ | ⟨rfl, rfl⟩
    · exact hg0
    · rw [hs]; exact hg0
  · rw [decide_eq_false e, Bool.xor_false] at hg
    exact hg
theorem c_come {u v : Nat} {x : Int32} (hw : zWF h) (hC : CN h s) (hG : GF s.f) (hu : u < 40) (hv : v < 40) (huv : u ≠ v) (hg : gb (s.f u) v = false) (hE : s.E + 1 ≤ 780) (hsp : s.sp ≤ 1560) : zK (d + 4) m_X3_come [.ref 2, .int (nI u), .int (nI v), .int x] h (kV (fun h' => CN h' (comeS s u v x) ∧ frm [2, 4] [2, 3] h h' ∧ h'.L 2 10 = h.L 2 10)) := by
  obtain ⟨e1, e2, e3, e4, e5, e6, e7, e8, e9⟩ := id hC
  refine r_X3_come_0 (nI u) (nI v) x hw ⟨vi40 hu, vi40 hu, fun h3 q3 => ⟨vi40 hv, vi40 hv, fun h6 q6 => use_pI (c_pairOf hu hv) ⟨vp_in_nI (pr_lt hu hv) (by decide), fun h9 q9 h10 q10 h11 q11 => ?_⟩⟩⟩
  rw [cl40 hu, e1] at q3
  change h3 = h.sL 3 u (s.f u ||| one v) at q3
  rw [or_xor (by omega) hg] at q3
  have f3 : h3.L 3 = va_up s.f u (s.f u ^^^ one v) := by rw [q3, AH.sL_L, e1]
  rw [cl40 hv, f3, va_up_ne _ _ (fun q => huv q.symm)] at q6
  change h6 = h3.sL 3 v (s.f v ||| one u) at q6
  rw [or_xor (by omega) (by rw [hG.1]; exact hg)] at q6
  have f6 : h6.L 3 = flip s.f u v := by rw [q6, AH.sL_L, f3]; rfl
  rw [cl_n (pr_lt hu hv) (by decide)] at q9
  have w3 : h9.I 2 3 = nI s.E := by rw [q9, q6, q3]; exact e3
  rw [w3, nI_add] at q10
  have w9 : h10.L 2 9 = lN s.ch := by rw [q10, q9, q6, q3]; exact e9
  rw [w9, show (1 : Int64) = lN 1 from rfl, lN_add] at q11
  have hw11 : zWF h11 := wf_L q11 (wf_I q10 (wf_I q9 (wf_L q6 (wf_L q3 hw))))
  have fr : frm [2, 4] [2, 3] h h11 := frm_tr (frm_wL q3 (by decide)) (frm_tr (frm_wL q6 (by decide)) (frm_tr (frm_wI q9 (by decide)) (frm_tr (frm_wI q10 (by decide)) (frm_wL q11 (by decide)))))
  have p10 : h11.L 2 10 = h.L 2 10 := by rw [q11, q10, q9, q6, q3]; rfl
  have hC11 : CN h11 (ns (flip s.f u v) (va_up s.w (pr u v) x) (s.E + 1) s.sp s.hv s.mv s.cr s.rb (s.ch + 1)) := by
    refine ⟨by rw [q11, q10, q9]; exact f6, ?_, by rw [q11, q10]; rfl, by rw [q11, q10, q9, q6, q3]; exact e4, by rw [q11, q10, q9, q6, q3]; exact e5, by rw [q11, q10, q9, q6, q3]; exact e6, by rw [q11, q10, q9, q6, q3]; exact e7, by rw [q11, q10, q9, q6, q3]; exact e8, by rw [q11]; rfl⟩
    have i4 : h11.I 4 = va_up (h.I 4) (pr u v) x := by rw [q11, q10, q9, q6, q3]; rfl
    rw [i4]
    exact w_flip huv hu hv e2
  have v3 : h11.I 2 3 = nI (s.E + 1) := hC11.2.2.1
  have v4 : h11.I 2 4 = nI s.sp := hC11.2.2.2.1
  rw [v3, v4, nI_mulE, zmmin_n (by omega) (by omega), zmmax_n (by omega) (by omega)]
  refine ⟨fun q => ?_, fun q => ?_⟩
  · have hne : ¬ s.E + 1 = s.sp := fun z => q (by rw [z])
    refine use_kV (c_lookAt hw11 hC11 (show min u v < 40 by omega) (show s.sp ≤ 1600 by omega)) (fun h13 hw13 ⟨a1, a2, a3⟩ => ?_)
    refine use_kV (c_lookAt hw13 a1 (show max u v < 40 by omega) ?_) (fun h14 hw14 ⟨b1, b2, b3⟩ => mk_kV hw14 ⟨?_, frm_tr fr (frm_tr (frm_up a2 (by decide) (by decide)) (frm_up b2 (by decide) (by decide))), by rw [b3, a3, p10]⟩)
    · unfold look
      split <;> exact (show s.sp ≤ 1600 by omega)
    · unfold comeS
      rw [if_neg hne]
      exact b1
  · have heq : s.E + 1 = s.sp := (nI_eqE (by omega) (by omega)).mp q
    refine use_kV (c_rebase hw11 hC11 (show s.sp * 2 ≤ 1600 by omega)) (fun h15 hw15 ⟨a1, a2, a3⟩ => mk_kV hw15 ⟨?_, frm_tr fr (frm_up a2 (by decide) (by decide)), by rw [a3, p10]⟩)
    unfold comeS
    rw [if_pos heq]
    exact a1
theorem c_go {u v : Nat} (hw : zWF h) (hC : CN h s) (hG : GF s.f) (hu : u < 40) (hv : v < 40) (huv : u ≠ v) (hg : gb (s.f u) v = true) (hE0 : 1 ≤ s.E) (hE : s.E ≤ 780) (hsp : s.sp ≤ 1560) : zK (d + 4) m_X3_go [.ref 2, .int (nI u), .int (nI v)] h (kV (fun h' => CN h' (goS s u v) ∧ frm [2] [2, 3] h h' ∧ h'.L 2 10 = h.L 2 10)) := by
  obtain ⟨e1, e2, e3, e4, e5, e6, e7, e8, e9⟩ := id hC
  refine r_X3_go_0 (nI u) (nI v) hw ⟨vi40 hu, vi40 hu, fun h3 q3 => ⟨vi40 hv, vi40 hv, fun h6 q6 h10 q10 h11 q11 => ?_⟩⟩
  rw [cl40 hu, e1] at q3
  change h3 = h.sL 3 u (s.f u &&& (one v ^^^ (-1))) at q3
  rw [andn_xor (by omega) hg] at q3
  have f3 : h3.L 3 = va_up s.f u (s.f u ^^^ one v) := by rw [q3, AH.sL_L, e1]
  rw [cl40 hv, f3, va_up_ne _ _ (fun q => huv q.symm)] at q6
  change h6 = h3.sL 3 v (s.f v &&& (one u ^^^ (-1))) at q6
  rw [andn_xor (by omega) (by rw [hG.1]; exact hg)] at q6
  have f6 : h6.L 3 = flip s.f u v := by rw [q6, AH.sL_L, f3]; rfl
  have w3 : h6.I 2 3 = nI s.E := by rw [q6, q3]; exact e3
  rw [w3, nI_subE hE0] at q10
  have w9 : h10.L 2 9 = lN s.ch := by rw [q10, q6, q3]; exact e9
  rw [w9, show (1 : Int64) = lN 1 from rfl, lN_add] at q11
  have hw11 : zWF h11 := wf_L q11 (wf_I q10 (wf_L q6 (wf_L q3 hw)))
  have fr : frm [2] [2, 3] h h11 := frm_tr (frm_wL q3 (by decide)) (frm_tr (frm_wL q6 (by decide)) (frm_tr (frm_wI q10 (by decide)) (frm_wL q11 (by decide))))
  have p10 : h11.L 2 10 = h.L 2 10 := by rw [q11, q10, q6, q3]; rfl
  have hC11 : CN h11 (ns (flip s.f u v) s.w (s.E - 1) s.sp s.hv s.mv s.cr s.rb (s.ch + 1)) := by
    refine ⟨by rw [q11, q10]; exact f6, ?_, by rw [q11, q10]; rfl, by rw [q11, q10, q6, q3]; exact e4, by rw [q11, q10, q6, q3]; exact e5, by rw [q11, q10, q6, q3]; exact e6, by rw [q11, q10, q6, q3]; exact e7, by rw [q11, q10, q6, q3]; exact e8, by rw [q11]; rfl⟩
    have i4 : h11.I 4 = h.I 4 := by rw [q11, q10, q6, q3]; rfl
    rw [i4]
    exact w_flip2 huv hu hv hg hG.1 e2
  have v3 : h11.I 2 3 = nI (s.E - 1) := hC11.2.2.1
  have v4 : h11.I 2 4 = nI s.sp := hC11.2.2.2.1
  rw [v3, v4, nI_maxE (by omega), nI_divE (by omega) (by decide) (by decide), nI_leE (by omega) (by omega), zmmin_n (by omega) (by omega), zmmax_n (by omega) (by omega)]
  refine ⟨fun q => ?_, fun q => ?_⟩
  · have hne : ¬ s.E - 1 < s.sp / 4 := by omega
    refine use_kV (c_lookAt hw11 hC11 (show min u v < 40 by omega) (show s.sp ≤ 1600 by omega)) (fun h13 hw13 ⟨a1, a2, a3⟩ => ?_)
    refine use_kV (c_lookAt hw13 a1 (show max u v < 40 by omega) ?_) (fun h14 hw14 ⟨b1, b2, b3⟩ => mk_kV hw14 ⟨?_, frm_tr fr (frm_tr (frm_up a2 (by decide) (by decide)) (frm_up b2 (by decide) (by decide))), by rw [b3, a3, p10]⟩)
    · unfold look
      split <;> exact (show s.sp ≤ 1600 by omega)
    · unfold goS
      rw [if_neg hne]
      exact b1
  · have heq : s.E - 1 < s.sp / 4 := by omega
    refine use_kV (c_rebase hw11 hC11 (show max 1 (s.sp / 2 - 1) ≤ 1600 by omega)) (fun h15 hw15 ⟨a1, a2, a3⟩ => mk_kV hw15 ⟨?_, frm_tr fr (frm_up a2 (by decide) (by decide)), by rw [a3, p10]⟩)
    unfold goS
    rw [if_pos heq]
    exact a1
end CNET2
/-! what may go back: n entries, the latest last -/
abbrev Ent : Type := Nat × Nat × Bool × Int32
def lpush (n : Nat) (en : Nat → Ent) (x : Ent) : Nat × (Nat → Ent) := if n = 60 then (60, va_up (fun i => en (i + 1)) 59 x) else (n + 1, va_up en n x)
def cE (I : Nat → Int32) (i : Nat) (x : Ent) : Prop := I (4 * i) = bI x.2.2.1 ∧ I (4 * i + 1) = nI x.1 ∧ I (4 * i + 2) = nI x.2.1 ∧ I (4 * i + 3) = x.2.2.2
def CL (h : AH) (n : Nat) (en : Nat → Ent) : Prop := h.I 5 1 = nI n ∧ n ≤ 60 ∧ ∀ i, i < n → cE (h.I 6) i (en i)
theorem cl_add {i k n : Nat} (h : i + k < n) (hn : n < 2147483648) : (nI i + nI k).toNatClampNeg = i + k := by rw [nI_add]; exact cl_n h hn
section PAST
variable {d : Nat} {h : AH}
theorem keep_end {g : AH} {m : Nat} {en : Nat → Ent} {x : Ent} {c : Int32} (hm : m < 60) (hc : c = bI x.2.2.1) (hg : ∀ i, i < m → cE (g.I 6) i (en i)) : ∀ i, i < m + 1 → cE (va_up (va_up (va_up (va_up (g.I 6) (m * 4) c) (m * 4 + 1) (nI x.1)) (m * 4 + 2) (nI x.2.1)) (m * 4 + 3) x.2.2.2) i (va_up en m x i) := by
  intro i hi
  by_cases e : i = m
  · subst e
    rw [va_up_self]
    refine ⟨?_, ?_, ?_, ?_⟩
    · rw [va_up_ne _ _ (by omega), va_up_ne _ _ (by omega), va_up_ne _ _ (by omega), show 4 * i = i * 4 by omega, va_up_self, hc]
    · rw [va_up_ne _ _ (by omega), va_up_ne _ _ (by omega), show 4 * i + 1 = i * 4 + 1 by omega, va_up_self]
    · rw [va_up_ne _ _ (by omega), show 4 * i + 2 = i * 4 + 2 by omega, va_up_self]
    · rw [show 4 * i + 3 = i * 4 + 3 by omega, va_up_self]
  · rw [va_up_ne _ _ e]
    have hlt : i < m := by omega
    obtain ⟨a1, a2, a3, a4⟩ := hg i hlt
    refine ⟨?_, ?_, ?_, ?_⟩ <;> rw [va_up_ne _ _ (by omega), va_up_ne _ _ (by omega), va_up_ne _ _ (by omega), va_up_ne _ _ (by omega)] <;> assumption
theorem c_keep {n : Nat} {en : Nat → Ent} {c : Bool} {u v : Nat} {x : Int32} (hw : zWF h) (hL : CL h n en) : zK (d + 1) m_X5_keep [.ref 5, .int (bI c), .int (nI u), .int (nI v), .int x] h (kV (fun h' => CL h' (lpush n en (u, v, c, x)).1 (lpush n en (u, v, c, x)).2 ∧ frm [5, 6] [] h h')) := by
  obtain ⟨l1, l2, l3⟩ := id hL
  have fin : ∀ (g : AH) (m : Nat) (en' : Nat → Ent) (cc : Int32), cc = bI c → m < 60 → zWF g → g.I 5 1 = nI m → (∀ i, i < m → cE (g.I 6) i (en' i)) → frm [5, 6] [] h g → lpush n en (u, v, c, x) = (m + 1, va_up en' m (u, v, c, x)) →
      vp_in ((g.I 5 1) * (nI 4)) 240 ∧ (∀ h4, h4 = g.sI 6 ((g.I 5 1) * (nI 4)).toNatClampNeg cc → vp_in (((g.I 5 1) * (nI 4)) + (nI 1)) 240 ∧ (∀ h6, h6 = h4.sI 6 (((g.I 5 1) * (nI 4)) + (nI 1)).toNatClampNeg (nI u) → vp_in (((g.I 5 1) * (nI 4)) + (nI 2)) 240 ∧ (∀ h8, h8 = h6.sI 6 (((g.I 5 1) * (nI 4)) + (nI 2)).toNatClampNeg (nI v) → vp_in (((g.I 5 1) * (nI 4)) + (nI 3)) 240 ∧ (∀ h10, h10 = h8.sI 6 (((g.I 5 1) * (nI 4)) + (nI 3)).toNatClampNeg x → ∀ h11, h11 = h10.sI 5 1 ((h10.I 5 1) + (nI 1)) → kV (fun h' => CL h' (lpush n en (u, v, c, x)).1 (lpush n en (u, v, c, x)).2 ∧ frm [5, 6] [] h h') none h11)))) := by
    intro g m en' cc hcc hm hwg g1 g3 hf hp
    rw [g1, nI_mulE, nI_add, nI_add, nI_add]
    refine ⟨vp_in_nI (by omega) (by decide), fun h4 q4 => ⟨vp_in_nI (by omega) (by decide), fun h6 q6 => ⟨vp_in_nI (by omega) (by decide), fun h8 q8 => ⟨vp_in_nI (by omega) (by decide), fun h10 q10 h11 q11 => ?_⟩⟩⟩⟩
    rw [cl_n (show m * 4 < 240 by omega) (by decide)] at q4
    rw [cl_n (show m * 4 + 1 < 240 by omega) (by decide)] at q6
    rw [cl_n (show m * 4 + 2 < 240 by omega) (by decide)] at q8
    rw [cl_n (show m * 4 + 3 < 240 by omega) (by decide)] at q10
    have z1 : h10.I 5 1 = nI m := by rw [q10, q8, q6, q4]; exact g1
    rw [z1, nI_add] at q11
    refine mk_kV (wf_I q11 (wf_I q10 (wf_I q8 (wf_I q6 (wf_I q4 hwg))))) ⟨?_, frm_tr hf (frm_tr (frm_wI q4 (by decide)) (frm_tr (frm_wI q6 (by decide)) (frm_tr (frm_wI q8 (by decide)) (frm_tr (frm_wI q10 (by decide)) (frm_wI q11 (by decide))))))⟩
    rw [hp]
    refine ⟨by rw [q11]; rfl, hm, ?_⟩
    have e6 : h11.I 6 = va_up (va_up (va_up (va_up (g.I 6) (m * 4) cc) (m * 4 + 1) (nI u)) (m * 4 + 2) (nI v)) (m * 4 + 3) x := by rw [q11, q10, q8, q6, q4]; rfl
    rw [e6]
    exact keep_end (x := (u, v, c, x)) hm hcc g3
  refine r_X5_keep_0 (bI c) (nI u) (nI v) x hw ⟨fun q => ⟨fun z => ?_, fun z => ?_⟩, fun q => ⟨⟨by decide, by decide, by decide, by decide, by decide⟩, fun h22 q22 h23 q23 => ?_⟩⟩
  · rw [l1] at q
    have hn := (nI_ltE (by omega) (by decide)).mp q
    exact fin h n en _ (bI_f (bF z)) hn hw l1 l3 frm_rf (if_neg (by omega))
  · rw [l1] at q
    have hn := (nI_ltE (by omega) (by decide)).mp q
    exact fin h n en _ (bI_t (bT z)) hn hw l1 l3 frm_rf (if_neg (by omega))
  · rw [l1] at q
    have hn : n = 60 := by
      have := (not_congr (nI_ltE (by omega) (by decide))).mp q
      omega
    subst hn
    have hw23 : zWF h23 := wf_I q23 (wf_I q22 hw)
    have f23 : frm [5, 6] [] h h23 := frm_tr (frm_wI q22 (by decide)) (frm_wI q23 (by decide))
    have g1 : h23.I 5 1 = nI 59 := by rw [q23]; rfl
    have g3 : ∀ i, i < 59 → cE (h23.I 6) i (en (i + 1)) := by
      intro i hi
      have e6 : h23.I 6 = va_cpy (h.I 6) (h.I 6) 4 0 236 := by rw [q23, q22]; rfl
      rw [e6]
      obtain ⟨a1, a2, a3, a4⟩ := l3 (i + 1) (by omega)
      refine ⟨?_, ?_, ?_, ?_⟩
      · rw [pk_cpy_in (by omega) (by omega), ← a1]; congr 1; omega
      · rw [pk_cpy_in (by omega) (by omega), ← a2]; congr 1; omega
      · rw [pk_cpy_in (by omega) (by omega), ← a3]; congr 1; omega
      · rw [pk_cpy_in (by omega) (by omega), ← a4]; congr 1; omega
    refine ⟨fun z => ?_, fun z => ?_⟩
    · exact fin h23 59 (fun i => en (i + 1)) _ (bI_f (bF z)) (by decide) hw23 g1 g3 f23 (if_pos rfl)
    · exact fin h23 59 (fun i => en (i + 1)) _ (bI_t (bT z)) (by decide) hw23 g1 g3 f23 (if_pos rfl)
end PAST
