/-! LAY, JUDGE -/
def srB (x : Int32) : Bool := decide (¬ x < nI 0) && decide (¬ nI 3 < x)
theorem srB_iff {x : Int32} : srB x = true ↔ ∃ l, l < 4 ∧ x = nI l := by
  unfold srB
  rw [Bool.and_eq_true, decide_eq_true_iff, decide_eq_true_iff, Int32.lt_iff_toInt_lt, Int32.lt_iff_toInt_lt]
  constructor
  · rintro ⟨q1, q2⟩
    have q1 : ¬ x.toInt < 0 := q1
    have q2 : ¬ 3 < x.toInt := q2
    exact ⟨x.toInt.toNat, by omega, zr_int (by omega)⟩
  · rintro ⟨l, hl, rfl⟩
    rw [nI_toInt (by omega)]
    exact ⟨by show ¬ (l : Int) < 0; omega, by show ¬ 3 < (l : Int); omega⟩
def lw (X : Nat → Int64) (F : Nat → Nat) (s m : Nat) : Nat → Int64 := fun j => if s ≤ j ∧ j < s + m then (nI (F (j - s))).toInt64 else X j
theorem lw_0 {X : Nat → Int64} {F : Nat → Nat} {s : Nat} : lw X F s 0 = X := by
  funext j
  exact if_neg (by omega)
theorem lw_s {X : Nat → Int64} {F : Nat → Nat} {s m : Nat} : va_up (lw X F s m) (s + m) (nI (F m)).toInt64 = lw X F s (m + 1) := by
  funext j
  unfold lw
  by_cases q : j = s + m
  · subst q
    rw [va_up_self, if_pos (by omega), show s + m - s = m by omega]
  · rw [va_up_ne _ _ q]
    by_cases z : s ≤ j ∧ j < s + m
    · rw [if_pos z, if_pos (by omega)]
    · rw [if_neg z, if_neg (by omega)]
def lyI : List Nat := [40, 60, 41, 43, 45, 47, 49, 51, 69]
section LAY
variable {d : Nat} {h : AH} {c : Nat}
theorem c_isSort (x : Int32) : zK (d + 1) m_X10_isSort [.int x] h (pI h (fun y => y = bI (srB x))) := by
  refine r_X10_isSort_0 x ⟨fun q => mk_pI (bI_f ?_), fun q => ⟨fun z => mk_pI (bI_f ?_), fun z => mk_pI (bI_t ?_)⟩⟩
  · unfold srB; rw [decide_eq_false (fun w => w (by rw [nI_0]; exact q))]; rfl
  · unfold srB; rw [decide_eq_false (fun w : ¬ nI 3 < x => w z), Bool.and_false]
  · unfold srB; rw [Bool.and_eq_true, decide_eq_true_iff, decide_eq_true_iff, nI_0]; exact ⟨q, z⟩
theorem c_put {l k : Nat} {F : Nat} (hw : zWF h) (hl : l < 6) (hk : k < 60) (hb : h.I (41 + 2 * l) 0 = bI (decide (l < 4))) : zK (d + 1) m_X8_put [.ref (41 + 2 * l), .int (nI k), .long (nI F).toInt64] h (kV (fun h' => h' = h.sL (42 + 2 * l) k (nI F).toInt64)) := by
  refine r_X8_put_0 _ _ _ hw (zrow hl) ?_
  rw [hb, cl_n hk (by decide), show 41 + 2 * l + 1 = 42 + 2 * l by omega, Int32.toInt32_toInt64]
  exact ⟨fun _ => ⟨vp_in_nI hk (by decide), fun h3 e => mk_kV (wf_L e hw) e⟩, fun _ => ⟨vp_in_nI hk (by decide), fun h3 e => mk_kV (wf_L e hw) e⟩⟩
theorem c_layLoop {l k p : Nat} {F : Nat → Nat} {P : Int32 → AH → Prop} (x1 : Int32) (hl : l < 6) (hp : p ≤ 40) (hk : 0 < p → x1 = nI k ∧ k + p ≤ 60) (hw : zWF h) (hb : h.I (41 + 2 * l) 0 = bI (decide (l < 4))) (h40 : ∀ u, u < 40 → h.I 40 u = nI (F u))
    (hP : ∀ g, zWF g → oth l h g → g.I = h.I → (∀ m, m ≠ 42 + 2 * l → g.L m = h.L m) → g.L (42 + 2 * l) = lw (h.L (42 + 2 * l)) F k p → P (if p = 40 then nI 40 else -13) g) :
    zQ none m_X10_lay (d + 2) 63 [(0, .ref 1), (2, .int x1), (4, .ref (41 + 2 * l)), (5, .int (nI p)), (6, .int (nI 0))] [] h (kI P) := by
  have key : ∀ u, u ≤ p → ∀ g, zWF g → oth l h g → g.I = h.I → (∀ m, m ≠ 42 + 2 * l → g.L m = h.L m) → g.L (42 + 2 * l) = lw (h.L (42 + 2 * l)) F k u → zQ none m_X10_lay (d + 2) 63 [(0, .ref 1), (2, .int x1), (4, .ref (41 + 2 * l)), (5, .int (nI p)), (6, .int (nI u))] [] g (kI P) := by
    refine nat_down ?_ (fun u hu ih => ?_)
    · intro g hg o gi gl gc
      refine r_X10_lay_63 _ _ _ _ hg (zrow hl) ⟨fun _ => ?_, fun z => absurd ((nI_leE (by omega) (by omega)).mpr (Nat.le_refl _)) z⟩
      rw [nI_leE (by decide) (by omega)]
      have := hP g hg o gi gl gc
      refine ⟨fun z => mk_kI hg ?_, fun z => mk_kI hg ?_⟩
      · rw [if_pos (by omega)] at this; exact this
      · rw [if_neg (by omega)] at this; exact this
    · intro g hg o gi gl gc
      obtain ⟨rfl, hk2⟩ := hk (by omega)
      refine r_X10_lay_63 _ _ _ _ hg (zrow hl) ⟨fun z => absurd ((nI_leE (by omega) (by omega)).mp z) (by omega), fun _ => ⟨vi40 (by omega), ?_⟩⟩
      rw [cl40 (by omega), gi, h40 u (by omega), nI_add, nI_add]
      refine use_kV (c_put hg hl (show k + u < 60 by omega) (by rw [gi]; exact hb)) (fun g' hg' e => ih g' hg' (oth_tr o (oth_C hl e)) (by rw [e]; exact gi) (fun m hm => ?_) ?_)
      · rw [e]
        show va_up g.L (42 + 2 * l) _ m = _
        rw [va_up_ne _ _ hm]
        exact gl m hm
      · rw [e, AH.sL_L, gc, lw_s]
  exact key 0 (Nat.zero_le _) h hw oth_rf rfl (fun _ _ => rfl) (by rw [lw_0])
theorem m_layLoop {l n k p s : Nat} {P : Int32 → AH → Prop} (x1 : Int32) (hl : l < 6) (hs : s < 4) (hp : p ≤ 40) (hn : n ≤ 60) (h69 : h.I 69 l = nI n) (hc : s = 2 → ∀ u, u < 40 → h.I 60 u = nI (cor (h.L 58) u)) (hw : zWF h) (hk : 0 < p → x1 = nI k ∧ k + p ≤ n) (hend : p < 40 → (x1 < 0 ∨ ¬ nI p < nI n - x1))
    (hP : ∀ g, zWF g → oth l h g → g.I = h.I → (∀ m, m ≠ 70 → g.L m = h.L m) → g.L 70 = lw (h.L 70) (fig (h.L 58) s) (60 * l + k) p → P (if p = 40 then nI 40 else -13) g) :
    zQ none m_X11_lay (d + 5) 37 [(0, .ref 53), (1, .int (nI l)), (2, .int x1), (3, .int (nI s)), (4, .int (nI 0))] [] h (kI P) := by
  have key : ∀ u, u ≤ p → ∀ g, zWF g → oth l h g → g.I = h.I → (∀ m, m ≠ 70 → g.L m = h.L m) → g.L 70 = lw (h.L 70) (fig (h.L 58) s) (60 * l + k) u → zQ none m_X11_lay (d + 5) 37 [(0, .ref 53), (1, .int (nI l)), (2, .int x1), (3, .int (nI s)), (4, .int (nI u))] [] g (kI P) := by
    refine nat_down ?_ (fun u hu ih => ?_)
    · intro g hg o gi gl gc
      have hPP := hP g hg o gi gl gc
      refine r_X11_lay_37 _ _ _ _ hg ?_
      rw [nI_leE (by decide) (by omega), cl_n hl (by decide), gi, h69]
      refine ⟨fun z => mk_kI hg ?_, fun z => ?_⟩
      · rw [if_pos (by omega)] at hPP; exact hPP
      · rw [if_neg (by omega)] at hPP
        refine ⟨fun _ => mk_kI hg hPP, fun z1 => ⟨v6r hl, fun z2 => ?_, fun _ => mk_kI hg hPP⟩⟩
        rcases hend (by omega) with e | e
        · exact absurd e z1
        · exact absurd z2 e
    · intro g hg o gi gl gc
      obtain ⟨rfl, hk2⟩ := hk (by omega)
      refine r_X11_lay_37 _ _ _ _ hg ⟨fun z => absurd z (n40 (by omega)), fun _ => ⟨fun z => absurd z (nI_lt0 (by omega)), fun _ => ⟨v6r hl, ?_⟩⟩⟩
      rw [cl_n hl (by decide), gi, h69, nI_subE (by omega), nI_ltE (by omega) (by omega), nI_mulE, nI_add, nI_add, nI_add, cl_n (show 60 * l + k + u < 360 by omega) (by decide)]
      refine ⟨fun _ => use_pI (m_figure hg hs (by omega) (fun z => by rw [gi, gl 58 (by decide)]; exact hc z u (by omega))) ⟨vp_in_nI (by omega) (by decide), fun g' e => ih g' (wf_L e hg) (oth_tr o (oth_70' (i := k + u) (by omega) (by omega) e)) (by rw [e]; exact gi) (fun m hm => ?_) ?_⟩, fun z => absurd (show u < n - k by omega) z⟩
      · rw [e]
        show va_up g.L 70 _ m = _
        rw [va_up_ne _ _ hm]
        exact gl m hm
      · rw [e, AH.sL_L, gc, gl 58 (by decide), lw_s]
  exact key 0 (Nat.zero_le _) h hw oth_rf rfl (fun _ _ => rfl) (by rw [lw_0])
/-- places from x1 on, of n -/
theorem places {n : Nat} (x1 : Int32) (hn : n ≤ 60) : (∃ k, k < n ∧ x1 = nI k) ∨ ((¬ ∃ k, k < n ∧ x1 = nI k) ∧ (x1 < 0 ∨ ¬ nI 0 < nI n - x1)) := by
  by_cases q : ∃ k, k < n ∧ x1 = nI k
  · exact Or.inl q
  · refine Or.inr ⟨q, ?_⟩
    by_cases z : x1 < 0
    · exact Or.inl z
    · obtain ⟨a, ha, rfl⟩ := nI_of z
      refine Or.inr ?_
      rw [Int32.lt_iff_toInt_lt, sub_ti hn (by omega)]
      have : ¬ a < n := fun w => q ⟨a, w, rfl⟩
      show ¬ (0 : Int) < _
      omega
theorem p_lay (x y z : Int32) (hw : zWF h) (hN : NET c h) (hL : LST h) : zK (d + 10) m_X10_lay [.ref 1, .int x, .int y, .int z] h (kI fun a h1 => zK (d + 10) m_X11_lay [.ref 53, .int x, .int y, .int z] h1 (kI fun b h2 => a = b ∧ NET c h2 ∧ LST h2 ∧ frm lyI lsL h h2)) := by
  have hN1 := hN
  have noM : (lsB x = false ∨ srB z = false) → zK (d + 10) m_X11_lay [.ref 53, .int x, .int y, .int z] h (kI fun b h2 => -1 = b ∧ NET c h2 ∧ LST h2 ∧ frm lyI lsL h h2) := by
    intro q
    refine r_X11_lay_0 _ _ _ hw (use_pI (m_isList _) ⟨fun _ => mk_kI hw ⟨rfl, hN, hL, frm_rf⟩, fun q1 => use_pI (m_isIn _ _ _) ⟨fun q2 => ?_, fun _ => mk_kI hw ⟨rfl, hN, hL, frm_rf⟩⟩⟩)
    exfalso
    rcases q with q | q
    · rw [bTb q1] at q; cases q
    · have q2 : srB z = true := bTb q2
      rw [q2] at q; cases q
  cases hx : lsB x with
  | false => exact r_X10_lay_0 _ _ _ hw (row_no hw hx (mk_kI hw (noM (Or.inl hx))))
  | true =>
    obtain ⟨l, hl, rfl⟩ := lsB_iff.mp hx
    refine r_X10_lay_0 _ _ _ hw (row_at hw hL hl (use_pI (c_isSort _) ?_))
    cases hz : srB z with
    | false => exact ⟨fun q => absurd bf0 q, fun _ => mk_kI hw (noM (Or.inr hz))⟩
    | true =>
      obtain ⟨s, hs, rfl⟩ := srB_iff.mp hz
      refine ⟨fun _ => ?_, fun q => absurd q bt0⟩
      have hz' : (decide (¬ nI s < nI 0) && decide (¬ nI 3 < nI s)) = true := hz
      rcases LST_there hL hl with ⟨c1, c2, c3⟩ | ⟨n, hn, c1, c2, c3, c4⟩
      · rw [c1]
        refine ⟨fun q => absurd i0_eq0 q, fun _ => mk_kI hw (r_X11_lay_0 _ _ _ hw (use_pI (m_isList _) ?_))⟩
        rw [hx]
        refine ⟨fun q => absurd q bt0, fun _ => use_pI (m_isIn _ _ _) ?_⟩
        rw [hz', cl_n hl (by decide), c3]
        exact ⟨fun _ => ⟨v6r hl, fun q => absurd q (by decide), fun _ => mk_kI hw ⟨rfl, hN, hL, frm_rf⟩⟩, fun q => absurd q bt0⟩
      · rw [c1]
        refine ⟨fun _ => ?_, fun q => absurd q i1_ne0⟩
        obtain ⟨st, nn, en, qc, qm, qn⟩ := hN
        refine use_kV (c_layFigures hw (sh_3 hw) (sh_40 hw) hs) (fun h5 hw5 ⟨g, e5, hg⟩ => ?_)
        have f5 : frm [40] [] h h5 := frm_wI e5 (by decide)
        have qc5 := cN_frm f5 qc (by decide) (by decide)
        have qm5 := mN_frm f5 qm (by decide) (by decide)
        have L5 : LST h5 := LST_frm f5 hL (by decide) (by decide)
        have d0 : h5.I (41 + 2 * l) 0 = bI (decide (l < 4)) := (L5 l hl).2.1
        have d2 : h5.I (41 + 2 * l) 3 = nI n := by rw [frm_I f5 (by simp; omega)]; exact c2
        have fin : ∀ p k, p ≤ 40 → (0 < p → y = nI k ∧ k + p ≤ n) → (p < 40 → (y < 0 ∨ ¬ nI p < nI n - y)) → zQ none m_X10_lay (d + 9 + 1) 63 [(0, .ref 1), (2, .int y), (4, .ref (41 + 2 * l)), (5, .int (nI p)), (6, .int (nI 0))] [] h5 (kI fun a h1 => zK (d + 10) m_X11_lay [.ref 53, .int (nI l), .int y, .int (nI s)] h1 (kI fun b h2 => a = b ∧ NET c h2 ∧ LST h2 ∧ frm lyI lsL h h2)) := by
          intro p k hp hk hend
          refine c_layLoop (d := d + 8) (k := k) (F := fig st.f s) y hl hp (fun z => ⟨(hk z).1, by have := (hk z).2; omega⟩) hw5 d0 (fun u hu => by rw [e5, AH.wI_I, hg u hu, qc.1.1]) (fun h6 hw6 o6 i6 l6 x6 => ?_)
          have qm6 := mN_frm o6.1 qm5 (by decide) (by decide)
          have qc6 := cN_frm o6.1 qc5 (by decide) (by decide)
          refine r_X11_lay_0 _ _ _ hw6 (use_pI (m_isList _) ?_)
          rw [hx]
          refine ⟨fun q => absurd q bt0, fun _ => use_pI (m_isIn _ _ _) ?_⟩
          have y69 : h6.I 69 l = nI n := by rw [i6, frm_I f5 (by decide)]; exact c3
          rw [hz', cl_n hl (by decide), y69]
          refine ⟨fun _ => ⟨v6r hl, fun _ => use_kV (m_cores hw6 (by rw [qm6.1.1]; exact qn.1.1)) (fun h7 hw7 ⟨g7, e7, hg7⟩ => ?_), fun q => absurd (nI_0le (by omega)) q⟩, fun q => absurd q bt0⟩
          have f7 : frm [60] [] h6 h7 := frm_wI e7 (by decide)
          have x58 : h7.L 58 = st.f := by rw [frm_L f7 (by decide)]; exact qm6.1.1
          refine m_layLoop (d := d + 5) (k := k) (p := p) y hl hs hp hn (by rw [frm_I f7 (by decide)]; exact y69) (fun _ u hu => by rw [e7, AH.wI_I, hg7 u hu]; rfl) hw7 hk hend (fun h8 hw8 o8 i8 l8 x8 => ?_)
          have qm8 := mN_frm o8.1 (mN_frm f7 qm6 (by decide) (by decide)) (by decide) (by decide)
          have qc8 := cN_frm o8.1 (cN_frm f7 qc6 (by decide) (by decide)) (by decide) (by decide)
          have L6 : LST h8 := by
            have hall : ∀ m, m < 6 → m ≠ l → LSTat h8 m := fun m hm hml => by
              obtain ⟨a1, a2, a3, a4⟩ := o8.2 m hm hml
              obtain ⟨b1, b2, b3, b4⟩ := o6.2 m hm hml
              obtain ⟨t1, t2, t3⟩ := L5 m hm
              have p1 : h8.I (41 + 2 * m) = h5.I (41 + 2 * m) := by rw [a1, frm_I f7 (by simp; omega), b1]
              have p2 : h8.L (42 + 2 * m) = h5.L (42 + 2 * m) := by rw [a2, frm_L f7 (by simp), b2]
              have p3 : h8.I 69 m = h5.I 69 m := by rw [a3, frm_I f7 (by simp), b3]
              have p4 : ∀ i, i < 60 → h8.L 70 (60 * m + i) = h5.L 70 (60 * m + i) := fun i hi => by rw [a4 i hi, frm_L f7 (by simp), b4 i hi]
              refine ⟨by rw [o8.1.2.2.2.1, f7.2.2.2.1, o6.1.2.2.2.1]; exact t1, by rw [p1]; exact t2, ?_⟩
              rw [p1, p2, p3]
              rcases t3 with t3 | ⟨n', s1, s2, s3, s4, s5⟩
              · exact Or.inl t3
              · exact Or.inr ⟨n', s1, s2, s3, s4, fun i hi => by rw [p4 i hi]; exact s5 i hi⟩
            intro m hm
            by_cases hml : m = l
            · subst hml
              have p1 : h8.I (41 + 2 * m) = h.I (41 + 2 * m) := by rw [i8, frm_I f7 (by simp; omega), i6, frm_I f5 (by simp; omega)]
              refine ⟨by rw [o8.1.2.2.2.1, f7.2.2.2.1, o6.1.2.2.2.1, f5.2.2.2.1]; exact (hL m hm).1, by rw [p1]; exact (hL m hm).2.1, Or.inr ⟨n, hn, by rw [p1]; exact c1, by rw [p1]; exact c2, by rw [i8, frm_I f7 (by simp)]; exact y69, fun i hi => ?_⟩⟩
              rw [l8 _ (by omega), frm_L f7 (by simp), x6, x8, x58, frm_L f5 (by simp), frm_L f7 (by simp), l6 70 (by omega), frm_L f5 (by simp)]
              unfold lw
              by_cases hib : k ≤ i ∧ i < k + p
              · rw [if_pos hib, if_pos (by omega), show 60 * m + i - (60 * m + k) = i - k by omega]
              · rw [if_neg hib, if_neg (by omega)]
                exact c4 i hi
            · exact hall m hm hml
          exact ⟨rfl, ⟨st, nn, en, qc8, qm8, qn⟩, L6, frm_tr (frm_up f5 (by decide) (by decide)) (frm_tr (frm_up o6.1 (by decide) (by decide)) (frm_tr (frm_up f7 (by decide) (by decide)) (frm_up o8.1 (by decide) (by decide))))⟩
        rcases places y hn with ⟨k, hk, rfl⟩ | ⟨hno, hend⟩
        · refine use_pI (c_places_in hw5 hl hn d2 hk) ?_
          rw [zmmin_n (by decide) (by omega)]
          refine fin (min 40 (n - k)) k (by omega) (fun _ => ⟨rfl, by omega⟩) (fun hp => Or.inr ?_)
          rw [nI_subE (by omega), nI_ltE (by omega) (by omega)]
          omega
        · refine use_pI (c_places_out hw5 hl hn d2 hno) ?_
          rw [zmmin_n (by decide) (by decide)]
          exact fin 0 0 (by decide) (fun z => absurd z (by decide)) (fun _ => hend)
end LAY
