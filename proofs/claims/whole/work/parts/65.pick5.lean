/-! PICK in a pair -/
theorem sL_n {h : AH} {k j r : Nat} {x : Int64} (hr : r ≠ k) : (h.sL k j x).L r = h.L r := va_up_ne _ _ hr
theorem sL_r {h h' : AH} {k j r : Nat} {x : Int64} (e : h' = h.sL k j x) (hr : r ≠ k) : h'.L r = h.L r := by rw [e]; exact sL_n hr
theorem sL_e {h h' : AH} {k j : Nat} {x : Int64} (e : h' = h.sL k j x) : h'.L k j = x := by rw [e, AH.sL_L, va_up_self]
theorem sL_j {h h' : AH} {k j i : Nat} {x : Int64} (e : h' = h.sL k j x) (hi : i ≠ j) : h'.L k i = h.L k i := by rw [e, AH.sL_L, va_up_ne _ _ hi]
theorem sL_I {h h' : AH} {k j : Nat} {x : Int64} (e : h' = h.sL k j x) (r : Nat) : h'.I r = h.I r := by rw [e]; rfl
section CONG
variable {f g : Nat → Int64}
theorem spT_cg (e : ∀ v, v < 40 → f v = g v) {u : Nat} (hu : u < 40) : spT f u = spT g u := fb_sm_cong (fun v hv => by rw [e u hu, e v hv])
theorem tri_cg (e : ∀ v, v < 40 → f v = g v) {u : Nat} (hu : u < 40) : tri f u = tri g u := by unfold tri; rw [spT_cg e hu]
theorem stay_cg (e : ∀ v, v < 40 → f v = g v) (K : Int32) (S : Int64) : stay f K S = stay g K S := mk_cg 40 (fun v hv => by unfold stayP; rw [e v hv])
theorem cw_cg (e : ∀ v, v < 40 → f v = g v) (K : Int32) : ∀ n S, cw f K n S = cw g K n S
  | 0, S => rfl
  | n + 1, S => by
    show cw f K n (stay f K S) = cw g K n (stay g K S)
    rw [stay_cg e, cw_cg e K n]
theorem corN_cg (e : ∀ v, v < 40 → f v = g v) (v : Nat) : ∀ n, corN f v n = corN g v n
  | 0 => rfl
  | n + 1 => by
    show (if gb (cw f (nI (n + 1)) 41 AV) v = true then n + 1 else corN f v n) = (if gb (cw g (nI (n + 1)) 41 AV) v = true then n + 1 else corN g v n)
    rw [cw_cg e, corN_cg e v n]
theorem fig_cg (e : ∀ v, v < 40 → f v = g v) {s u : Nat} (hs : s < 3) (hu : u < 40) : fig f s u = fig g s u := by
  unfold fig
  split
  · rw [e u hu]
  · split
    · exact tri_cg e hu
    · split
      · exact corN_cg e u 39
      · omega
end CONG
def pif (h h' : AH) : Prop := frm (23 :: 53 :: scI) scL h h' ∧ (∀ j, j ≠ 7 → h'.L 53 j = h.L 53 j) ∧ h'.I 53 10 = h.I 53 10 ∧ h'.I 53 25 = h.I 53 25
theorem pif_tr {h h1 h2 : AH} (a : pif h h1) (b : pif h1 h2) : pif h h2 := ⟨frm_tr a.1 b.1, fun j q => (b.2.1 j q).trans (a.2.1 j q), b.2.2.1.trans a.2.2.1, b.2.2.2.trans a.2.2.2⟩
theorem pif_f {SI SL : List Nat} {h h1 : AH} (a : frm SI SL h h1) (hs : ∀ k ∈ SI, k ∈ 23 :: scI) (hl : ∀ k ∈ SL, k ∈ [2, 31]) : pif h h1 := by
  have h53 : 53 ∉ SI := fun q => absurd (hs _ q) (by decide)
  have l53 : 53 ∉ SL := fun q => absurd (hl _ q) (by decide)
  refine ⟨frm_up a (fun k hk => ?_) (fun k hk => ?_), fun j _ => by rw [frm_L a l53], by rw [frm_I a h53], by rw [frm_I a h53]⟩
  · rcases List.mem_cons.mp (hs k hk) with q | q
    · rw [q]; exact List.mem_cons_self
    · exact List.mem_cons_of_mem _ (List.mem_cons_of_mem _ q)
  · have : ∀ k ∈ [2, 31], k ∈ scL := by decide
    exact this k (hl k hk)
theorem pif_p {h h1 : AH} (a : pkf h h1) : pif h h1 := ⟨frm_up a.1 (by decide) (by decide), fun j _ => by rw [pkf_L a], a.2 10 (by decide) (by decide) (by decide), a.2 25 (by decide) (by decide) (by decide)⟩
theorem pif_s {h h1 : AH} {j : Nat} {x : Int32} (e : h1 = h.sI 53 j x) (hj : j = 19 ∨ j = 20 ∨ j = 21 ∨ j = 22) : pif h h1 := by
  refine ⟨frm_wI e (by decide), fun i _ => by rw [e]; rfl, ?_, ?_⟩
  · rw [e, AH.sI_I, va_up_ne _ _ (by omega)]
  · rw [e, AH.sI_I, va_up_ne _ _ (by omega)]
theorem pif_L {h h1 : AH} {x : Int64} (e : h1 = h.sL 53 7 x) : pif h h1 := ⟨frm_wL e (by decide), fun i hi => sL_j e hi, by rw [e]; rfl, by rw [e]; rfl⟩
theorem mZ_L {h h1 : AH} {z : NT} {x : Int64} (q : mZ h z) (e : h1 = h.sL 53 7 x) : mZ h1 z := by
  obtain ⟨⟨a1, a2, a3, a4, a5, a6, a7, a8, a9⟩, b⟩ := q
  refine ⟨⟨by rw [sL_r e (by decide)]; exact a1, by rw [sL_I e]; exact a2, by rw [sL_I e]; exact a3, by rw [sL_I e]; exact a4, by rw [sL_j e (by decide)]; exact a5, by rw [sL_I e]; exact a6, by rw [sL_I e]; exact a7, by rw [sL_I e]; exact a8, by rw [sL_I e]; exact a9⟩, ?_⟩
  unfold ML
  rw [sL_I e]
  exact b
theorem cZ_L {h h1 : AH} {z : NT} {x : Int64} (q : cZ h z) (e : h1 = h.sL 2 10 x) : cZ h1 z := by
  obtain ⟨⟨a1, a2, a3, a4, a5, a6, a7, a8, a9⟩, b⟩ := q
  refine ⟨⟨by rw [sL_r e (by decide)]; exact a1, by rw [sL_I e]; exact a2, by rw [sL_I e]; exact a3, by rw [sL_I e]; exact a4, by rw [sL_j e (by decide)]; exact a5, by rw [sL_j e (by decide)]; exact a6, by rw [sL_j e (by decide)]; exact a7, by rw [sL_j e (by decide)]; exact a8, by rw [sL_j e (by decide)]; exact a9⟩, ?_⟩
  unfold CL
  rw [sL_I e, sL_I e]
  exact b
theorem fgV_110 (f : Nat → Int64) (hv : Int64) (v : Nat) : fgV f hv 110 v = v := by unfold fgV; rw [if_pos rfl]
theorem fgV_100 (f : Nat → Int64) (hv : Int64) (v : Nat) : fgV f hv 100 v = pc (f v) := by unfold fgV; rw [if_neg (by decide), if_pos rfl]
theorem fgV_116 (f : Nat → Int64) (hv : Int64) (v : Nat) : fgV f hv 116 v = tri f v := by unfold fgV; rw [if_neg (by decide), if_neg (by decide), if_pos rfl]
theorem fgV_99 (f : Nat → Int64) (hv : Int64) (v : Nat) : fgV f hv 99 v = cor f v := by unfold fgV; rw [if_neg (by decide), if_neg (by decide), if_neg (by decide), if_pos rfl]
theorem fgV_104 (f : Nat → Int64) (hv : Int64) (v : Nat) : fgV f hv 104 v = if gb hv v = true then 1 else 0 := by unfold fgV; rw [if_neg (by decide), if_neg (by decide), if_neg (by decide), if_neg (by decide)]
theorem fig_0 (f : Nat → Int64) (v : Nat) : fig f 0 v = pc (f v) := by unfold fig; rw [if_pos rfl]
theorem fig_1 (f : Nat → Int64) (v : Nat) : fig f 1 v = tri f v := by unfold fig; rw [if_neg (by decide), if_pos rfl]
theorem fig_2 (f : Nat → Int64) (v : Nat) : fig f 2 v = cor f v := by unfold fig; rw [if_neg (by decide), if_neg (by decide), if_pos rfl]
def pcl (len : Nat) (r : RS) : SS := if r.1.1 < len then sFail len r.1.1 r.1 else r.1
section PPICK
variable {d : Nat} {h : AH} {len : Nat} {T : Nat → Nat}
theorem c_readPick {f : Nat → Int64} {hv : Int64} (hT : ∀ i, i < len → T i ≤ 127) (hw : zWF h) (e3 : h.L 3 = f) (e5 : h.L 2 5 = hv) (a1 : h.I 23 1 = nI len) (a2 : len ≤ 160) (a3 : ∀ i, i < len → h.I 24 i = nI (T i)) : zK (d + 20) m_X7_read [.ref 30, .ref 23, .ref 2] h (kL (fun x h' => x = (sSeq len T (sSeq len T (sSi f hv len T 4) 38 iand) 124 ior (0, none)).2 ∧ CS h' len T (pcl len (sSeq len T (sSeq len T (sSi f hv len T 4) 38 iand) 124 ior (0, none))) ∧ frm [23, 32, 33, 34, 35, 36] [31] h h')) := by
  refine r_X7_read_0 hw ⟨⟨by decide, by decide, by decide, by decide, by decide⟩, fun h2 q2 => ?_⟩
  rw [k0, cl_40, e3] at q2
  have hw2 := wf_L q2 hw
  have f2 : frm [23, 32, 33, 34, 35, 36] [31] h h2 := frm_wL q2 (by decide)
  have l31 : ∀ v, v < 40 → h2.L 31 v = f v := fun v hv => by
    rw [q2, AH.wL_L, cpy0 hv]
  refine use_kV (c_layFigures (r2 := 33) (s := 0) hw2 (sh_31 hw2) (sh_33 hw2) (by decide)) (fun h3 hw3 ⟨g3, b3, d3⟩ => ?_)
  have l3 : h3.L 31 = h2.L 31 := by rw [b3]; rfl
  refine use_kV (c_layFigures (r2 := 34) (s := 1) hw3 (sh_31 hw3) (sh_34 hw3) (by decide)) (fun h4 hw4 ⟨g4, b4, d4⟩ => ?_)
  have l4 : h4.L 31 = h3.L 31 := by rw [b4]; rfl
  refine use_kV (c_layFigures (r2 := 35) (s := 2) hw4 (sh_31 hw4) (sh_35 hw4) (by decide)) (fun h5 hw5 ⟨g5, b5, d5⟩ => ?_)
  have l5 : h5.L 31 = h4.L 31 := by rw [b5]; rfl
  have f5 : frm [23, 32, 33, 34, 35, 36] [31] h h5 := frm_tr f2 (frm_tr (frm_wI b3 (by decide)) (frm_tr (frm_wI b4 (by decide)) (frm_wI b5 (by decide))))
  have m31 : ∀ v, v < 40 → h5.L 31 v = f v := fun v hv => by rw [l5, l4, l3]; exact l31 v hv
  have i33 : ∀ v, v < 40 → h5.I 33 v = nI (pc (f v)) := fun v hv => by
    rw [wI_r b5 (by decide), wI_r b4 (by decide), b3, AH.wI_I, d3 v hv, fig_cg l31 (by decide) hv, fig_0]
  have i34 : ∀ v, v < 40 → h5.I 34 v = nI (tri f v) := fun v hv => by
    rw [wI_r b5 (by decide), b4, AH.wI_I, d4 v hv, l3, fig_cg l31 (by decide) hv, fig_1]
  have i35 : ∀ v, v < 40 → h5.I 35 v = nI (cor f v) := fun v hv => by
    rw [b5, AH.wI_I, d5 v hv, l4, l3, fig_cg l31 (by decide) hv, fig_2]
  have HS : cR f hv len T (d + 1 + 3 * 4 + 4) m_X7_single (nI 0) (sSi f hv len T 4) := c_single hT 4 (d + 1) (by decide)
  have HE : cR f hv len T (d + 19) m_X7_either (nI 0) (sSeq len T (sSeq len T (sSi f hv len T 4) 38 iand) 124 ior) := c_either (d := d + 16) (c_both (d := d + 15) HS)
  have loop : ∀ i, i ≤ 40 → ∀ g, zWF g → frm [23, 32, 33, 34, 35, 36] [31] h g → frm [32, 36] [] h5 g → (∀ v, v < i → g.I 32 v = nI v ∧ g.I 36 v = nI (if gb hv v = true then 1 else 0)) → zQ none m_X7_read (d + 19 + 1) 53 [(0, .ref 30), (1, .ref 23), (2, .ref 2), (3, .int (nI i))] [] g (kL (fun x h' => x = (sSeq len T (sSeq len T (sSi f hv len T 4) 38 iand) 124 ior (0, none)).2 ∧ CS h' len T (pcl len (sSeq len T (sSeq len T (sSi f hv len T 4) 38 iand) 124 ior (0, none))) ∧ frm [23, 32, 33, 34, 35, 36] [31] h h')) := by
    refine nat_down ?_ (fun i hi ih => ?_)
    · intro g hg fg f5g hv40
      refine r_X7_read_53 _ hg ⟨fun _ => r_X9_rewind_0 hg (fun k1 p1 k2 p2 => mk_kV (wf_I p2 (wf_I p1 hg)) ?_), fun y => absurd e40 y⟩
      have hwk := wf_I p2 (wf_I p1 hg)
      have x23 : g.I 23 1 = h.I 23 1 := by rw [frm_I f5g (by decide), wI_r b5 (by decide), wI_r b4 (by decide), wI_r b3 (by decide), q2]; rfl
      have ck : CS k2 len T (0, none) := by
        refine ⟨?_, a2, fun i hi => ?_, ?_, Nat.zero_le _, ?_, fun f q => by cases q⟩
        · rw [p2, p1]; exact x23.trans a1
        · rw [sI_r p2 (by decide), sI_r p1 (by decide), frm_I f5g (by decide), wI_r b5 (by decide), wI_r b4 (by decide), wI_r b3 (by decide), q2]; exact a3 i hi
        · rw [p2, p1]; rfl
        · rw [p2]; rfl
      have f23 : frm [23] [] g k2 := frm_tr (frm_wI p1 (by decide)) (frm_wI p2 (by decide))
      have E2 : EN f hv k2 := by
        refine EN_23 f23 ⟨fun v hv => by rw [frm_L f5g List.not_mem_nil]; exact m31 v hv, fun L v hL hv => ?_⟩
        rcases isL_b hL with q | q | q | q | q
        · subst q
          rw [fgV_110]
          exact (hv40 v hv).1
        · subst q
          rw [fgV_100, show rwL 100 = 33 by decide, frm_I f5g (by decide)]; exact i33 v hv
        · subst q
          rw [fgV_116, show rwL 116 = 34 by decide, frm_I f5g (by decide)]; exact i34 v hv
        · subst q
          rw [fgV_99, show rwL 99 = 35 by decide, frm_I f5g (by decide)]; exact i35 v hv
        · subst q
          rw [fgV_104]
          exact (hv40 v hv).2
      refine use_kL (HE k2 (0, none) hwk E2 ck) (fun x k3 hw3 ⟨v1, v2, v3⟩ => ?_)
      have gE : gg len (sSeq len T (sSeq len T (sSi f hv len T 4) 38 iand) 124 ior) := gg_seq (by decide) (gg_seq (by decide) (gg_si a2 4))
      have hq := gE 0 (Nat.zero_le _)
      refine use_kV (c_needEnd hq.1 hw3 v2) (fun k4 hw4 ⟨w1, w2⟩ => mk_kL hw4 ⟨v1, w1, frm_tr fg (frm_tr (frm_up f23 (by decide) (by decide)) (frm_tr (frm_up v3 (by decide) (by decide)) (frm_up w2 (by decide) (by decide))))⟩)
    · intro g hg fg f5g hv40
      refine r_X7_read_53 _ hg ⟨fun y => absurd y (n40 hi), fun _ => ⟨vi40 hi, fun h7 q7 => ?_⟩⟩
      rw [cl40 hi] at q7 ⊢
      have hw7 := wf_I q7 hg
      have e75 : h7.L 2 5 = hv := by
        rw [q7]
        show g.L 2 5 = hv
        rw [frm_L fg (by decide)]; exact e5
      refine use_pI (c_isHeavy hw7 hi) ?_
      rw [e75, nI_add]
      have step : ∀ (b : Nat) h11, h11 = h7.sI 36 i (nI b) → (if gb hv i = true then 1 else 0) = b → zQ none m_X7_read (d + 19 + 1) 53 [(0, .ref 30), (1, .ref 23), (2, .ref 2), (3, .int (nI (i + 1)))] [] h11 (kL (fun x h' => x = (sSeq len T (sSeq len T (sSi f hv len T 4) 38 iand) 124 ior (0, none)).2 ∧ CS h' len T (pcl len (sSeq len T (sSeq len T (sSi f hv len T 4) 38 iand) 124 ior (0, none))) ∧ frm [23, 32, 33, 34, 35, 36] [31] h h')) := by
        intro b h11 q11 hb
        refine ih h11 (wf_I q11 hw7) (frm_tr fg (frm_tr (frm_wI q7 (by decide)) (frm_wI q11 (by decide)))) (frm_tr f5g (frm_tr (frm_wI q7 (by decide)) (frm_wI q11 (by decide)))) (fun v hv1 => ?_)
        rw [sI_r q11 (show 32 ≠ 36 by decide), q7, q11, AH.sI_I, AH.sI_I]
        by_cases e : v = i
        · subst e
          rw [va_up_self, va_up_self, hb]
          exact ⟨rfl, rfl⟩
        · rw [va_up_ne _ _ e, va_up_ne _ _ e, sI_r q7 (show 36 ≠ 32 by decide)]
          exact hv40 v (by omega)
      cases hb : gb hv i with
      | true =>
        refine ⟨fun z => absurd z bt0, fun _ => ⟨vi40 hi, fun h13 q13 => step 1 h13 q13 (by rw [hb]; rfl)⟩⟩
      | false =>
        refine ⟨fun _ => ⟨vi40 hi, fun h11 q11 => step 0 h11 q11 (by rw [hb]; rfl)⟩, fun z => absurd bf0 z⟩
  exact loop 0 (Nat.zero_le _) h5 hw5 f5 frm_rf (fun v hv => absurd hv (Nat.not_lt_zero _))
end PPICK
