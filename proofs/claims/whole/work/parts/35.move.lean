/-! MOVE -/
theorem sub_ti {n a : Nat} (hn : n ≤ 60) (ha : a < 2147483648) : (nI n - nI a).toInt = (n : Int) - a := by
  rw [Int32.toInt_sub, nI_toInt (by omega), nI_toInt (by omega)]
  exact Int.bmod_eq_of_le (by omega) (by omega)
theorem cpyF {α : Type} {X : Nat → α} {s e m : Nat} (h : s + m < e ∨ e + m ≤ s + m) : va_up (va_cpy X X s e m) (e + m) (va_cpy X X s e m (s + m)) = va_cpy X X s e (m + 1) := by
  funext j
  rw [pk_cpy_out (j := s + m) (by omega)]
  by_cases q : j = e + m
  · subst q
    rw [va_up_self, pk_cpy_in (by omega) (by omega)]
    congr 1; omega
  · rw [va_up_ne _ _ q]
    by_cases z : e ≤ j ∧ j < e + m
    · rw [pk_cpy_in z.1 z.2, pk_cpy_in z.1 (by omega)]
    · rw [pk_cpy_out (by omega), pk_cpy_out (by omega)]
theorem cpyB {α : Type} {X : Nat → α} {s e m : Nat} (h : s ≤ e ∨ e + 1 + m ≤ s) : va_up (va_cpy X X (s + 1) (e + 1) m) e (va_cpy X X (s + 1) (e + 1) m s) = va_cpy X X s e (m + 1) := by
  funext j
  rw [pk_cpy_out (j := s) (by omega)]
  by_cases q : j = e
  · subst q
    rw [va_up_self, pk_cpy_in (by omega) (by omega)]
    congr 1; omega
  · rw [va_up_ne _ _ q]
    by_cases z : e ≤ j ∧ j < e + (m + 1)
    · rw [pk_cpy_in (by omega) (by omega), pk_cpy_in z.1 z.2]
      congr 1; omega
    · rw [pk_cpy_out (by omega), pk_cpy_out (by omega)]
def mvB (n1 n3 : Nat) (i j k : Int32) : Prop := k < 0 ∨ i < 0 ∨ j < 0 ∨ (nI n1 - i) < k ∨ ¬ k ≤ (nI n3 - j)
theorem oth_70' {l i j : Nat} {h h' : AH} {x : Int64} (hi : i < 60) (hj : j = 60 * l + i) (e : h' = h.sL 70 j x) : oth l h h' := by
  subst hj; exact oth_70 hi e
section MOVE
variable {d : Nat} {h : AH}
theorem m_mv {l1 l3 a b k : Nat} {P : AH → Prop} (hl1 : l1 < 6) (hl3 : l3 < 6) (ha : a + k ≤ 60) (hb : b + k ≤ 60) (hw : zWF h) (hP : ∀ g, zWF g → oth l3 h g → g.I = h.I → (∀ m, m ≠ 70 → g.L m = h.L m) → g.L 70 = va_cpy (h.L 70) (h.L 70) (60 * l1 + a) (60 * l3 + b) k → P g) : zQ none m_X11_move (d + 1) 98 [(0, .ref 53), (1, .int (nI l1)), (2, .int (nI a)), (3, .int (nI l3)), (4, .int (nI b)), (5, .int (nI k)), (6, .int (nI 0))] [] h (kI fun x g => x = nI k ∧ P g) := by
  by_cases hab : a ≤ b
  · have key : ∀ m, m ≤ k → ∀ g, zWF g → oth l3 h g → g.I = h.I → (∀ r, r ≠ 70 → g.L r = h.L r) → g.L 70 = va_cpy (h.L 70) (h.L 70) (60 * l1 + a + (k - m)) (60 * l3 + b + (k - m)) m → zQ none m_X11_move (d + 1) 98 [(0, .ref 53), (1, .int (nI l1)), (2, .int (nI a)), (3, .int (nI l3)), (4, .int (nI b)), (5, .int (nI k)), (6, .int (nI m))] [] g (kI fun x g => x = nI k ∧ P g) := by
      refine nat_down ?_ (fun m hm ih => ?_)
      · intro g hg o gi gl g70
        rw [Nat.sub_self, Nat.add_zero, Nat.add_zero] at g70
        exact r_X11_move_98 _ _ _ _ _ _ hg ⟨fun _ => mk_kI hg ⟨rfl, hP g hg o gi gl g70⟩, fun z => absurd ((nI_leE (by omega) (by omega)).mpr (Nat.le_refl _)) z⟩
      · intro g hg o gi gl g70
        refine r_X11_move_98 _ _ _ _ _ _ hg ⟨fun z => absurd ((nI_leE (by omega) (by omega)).mp z) (by omega), fun _ => ⟨fun _ => ?_, fun z => absurd ((nI_leE (by omega) (by omega)).mpr hab) z⟩⟩
        rw [nI_mulE, nI_mulE, nI_add, nI_add, nI_subE (by omega), nI_subE (by omega), nI_add, nI_add, nI_add, cl_n (show 60 * l1 + a + (k - 1 - m) < 360 by omega) (by decide), cl_n (show 60 * l3 + b + (k - 1 - m) < 360 by omega) (by decide)]
        refine ⟨vp_in_nI (by omega) (by decide), vp_in_nI (by omega) (by decide), fun g' e => ih g' (wf_L e hg) (oth_tr o (oth_70' (i := b + (k - 1 - m)) (by omega) (by omega) e)) (by rw [e]; exact gi) (fun r hr => ?_) ?_⟩
        · rw [e]
          show va_up g.L 70 _ r = _
          rw [va_up_ne _ _ hr]
          exact gl r hr
        · rw [e, AH.sL_L, g70, show k - (m + 1) = k - 1 - m by omega]
          have e1 : 60 * l1 + a + (k - m) = 60 * l1 + a + (k - 1 - m) + 1 := by omega
          have e2 : 60 * l3 + b + (k - m) = 60 * l3 + b + (k - 1 - m) + 1 := by omega
          rw [e1, e2]
          apply cpyB
          by_cases hl : l1 = l3
          · subst hl; omega
          · omega
    exact key 0 (Nat.zero_le _) h hw oth_rf rfl (fun _ _ => rfl) (by funext j; rw [pk_cpy_out (by omega)])
  · have key : ∀ m, m ≤ k → ∀ g, zWF g → oth l3 h g → g.I = h.I → (∀ r, r ≠ 70 → g.L r = h.L r) → g.L 70 = va_cpy (h.L 70) (h.L 70) (60 * l1 + a) (60 * l3 + b) m → zQ none m_X11_move (d + 1) 98 [(0, .ref 53), (1, .int (nI l1)), (2, .int (nI a)), (3, .int (nI l3)), (4, .int (nI b)), (5, .int (nI k)), (6, .int (nI m))] [] g (kI fun x g => x = nI k ∧ P g) := by
      refine nat_down ?_ (fun m hm ih => ?_)
      · intro g hg o gi gl g70
        exact r_X11_move_98 _ _ _ _ _ _ hg ⟨fun _ => mk_kI hg ⟨rfl, hP g hg o gi gl g70⟩, fun z => absurd ((nI_leE (by omega) (by omega)).mpr (Nat.le_refl _)) z⟩
      · intro g hg o gi gl g70
        refine r_X11_move_98 _ _ _ _ _ _ hg ⟨fun z => absurd ((nI_leE (by omega) (by omega)).mp z) (by omega), fun _ => ⟨fun z => absurd ((nI_leE (by omega) (by omega)).mp z) hab, fun _ => ?_⟩⟩
        rw [nI_mulE, nI_mulE, nI_add, nI_add, nI_add, nI_add, nI_add, cl_n (show 60 * l1 + a + m < 360 by omega) (by decide), cl_n (show 60 * l3 + b + m < 360 by omega) (by decide)]
        refine ⟨vp_in_nI (by omega) (by decide), vp_in_nI (by omega) (by decide), fun g' e => ih g' (wf_L e hg) (oth_tr o (oth_70' (i := b + m) (by omega) (by omega) e)) (by rw [e]; exact gi) (fun r hr => ?_) ?_⟩
        · rw [e]
          show va_up g.L 70 _ r = _
          rw [va_up_ne _ _ hr]
          exact gl r hr
        · rw [e, AH.sL_L, g70]
          apply cpyF
          by_cases hl : l1 = l3
          · subst hl; omega
          · omega
    exact key 0 (Nat.zero_le _) h hw oth_rf rfl (fun _ _ => rfl) (by funext j; rw [pk_cpy_out (by omega)])
theorem LST_there {l : Nat} (hL : LST h) (hl : l < 6) : (h.I (41 + 2 * l) 2 = nI 0 ∧ h.I (41 + 2 * l) 3 = nI 0 ∧ h.I 69 l = -1) ∨ (∃ n, n ≤ 60 ∧ h.I (41 + 2 * l) 2 = nI 1 ∧ h.I (41 + 2 * l) 3 = nI n ∧ h.I 69 l = nI n ∧ ∀ i, i < 60 → h.L (42 + 2 * l) i = h.L 70 (60 * l + i)) := (hL l hl).2.2
theorem p_move (x y z u v : Int32) (hw : zWF h) (hL : LST h) : zK (d + 10) m_X10_move [.ref 1, .int x, .int y, .int z, .int u, .int v] h (kI fun a h1 => zK (d + 10) m_X11_move [.ref 53, .int x, .int y, .int z, .int u, .int v] h1 (kI fun b h2 => a = b ∧ LST h2 ∧ frm lsI lsL h h2)) := by
  have noM : (lsB x = false ∨ lsB z = false) → zK (d + 10) m_X11_move [.ref 53, .int x, .int y, .int z, .int u, .int v] h (kI fun b h2 => -1 = b ∧ LST h2 ∧ frm lsI lsL h h2) := by
    intro q
    refine r_X11_move_0 _ _ _ _ _ hw (use_pI (m_isList _) ⟨fun _ => mk_kI hw ⟨rfl, hL, frm_rf⟩, fun q1 => use_pI (m_isList _) ⟨fun q2 => ?_, fun _ => mk_kI hw ⟨rfl, hL, frm_rf⟩⟩⟩)
    exfalso
    rcases q with q | q
    · rw [bTb q1] at q; cases q
    · rw [bTb q2] at q; cases q
  cases hx : lsB x with
  | false =>
    refine r_X10_move_0 _ _ _ _ _ hw (row_no hw hx ?_)
    cases hz : lsB z with
    | false => exact row_no hw hz (mk_kI hw (noM (Or.inl hx)))
    | true =>
      obtain ⟨l, hl, rfl⟩ := lsB_iff.mp hz
      exact row_at hw hL hl (mk_kI hw (noM (Or.inl hx)))
  | true =>
    obtain ⟨l1, hl1, rfl⟩ := lsB_iff.mp hx
    refine r_X10_move_0 _ _ _ _ _ hw (row_at hw hL hl1 ?_)
    cases hz : lsB z with
    | false => exact row_no hw hz (mk_kI hw (noM (Or.inr hz)))
    | true =>
      obtain ⟨l3, hl3, rfl⟩ := lsB_iff.mp hz
      refine row_at hw hL hl3 ?_
      rcases LST_there hL hl1 with ⟨c1, c2, c3⟩ | ⟨n1, hn1, c1, c2, c3, c4⟩
      · rw [c1]
        refine ⟨fun _ => mk_kI hw (r_X11_move_0 _ _ _ _ _ hw (use_pI (m_isList _) ?_)), fun q => absurd i0_eq0 q⟩
        rw [hx]
        refine ⟨fun q => absurd q bt0, fun _ => use_pI (m_isList _) ?_⟩
        rw [hz, cl_n hl1 (by decide), c3]
        exact ⟨fun _ => ⟨v6r hl1, fun _ => mk_kI hw ⟨rfl, hL, frm_rf⟩, fun q => absurd (by decide) q⟩, fun q => absurd q bt0⟩
      · rw [c1]
        refine ⟨fun q => absurd q i1_ne0, fun _ => ?_⟩
        rcases LST_there hL hl3 with ⟨d1, d2, d3⟩ | ⟨n3, hn3, d1, d2, d3, d4⟩
        · rw [d1]
          refine ⟨fun q => absurd i0_eq0 q, fun _ => mk_kI hw (r_X11_move_0 _ _ _ _ _ hw (use_pI (m_isList _) ?_))⟩
          rw [hx]
          refine ⟨fun q => absurd q bt0, fun _ => use_pI (m_isList _) ?_⟩
          rw [hz, cl_n hl1 (by decide), cl_n hl3 (by decide), c3, d3]
          exact ⟨fun _ => ⟨v6r hl1, fun q => absurd q (nI_lt0 (by omega)), fun _ => ⟨v6r hl3, fun q => absurd q (by decide), fun _ => mk_kI hw ⟨rfl, hL, frm_rf⟩⟩⟩, fun q => absurd q bt0⟩
        · rw [d1, (hL l1 hl1).2.1, (hL l3 hl3).2.1, c2, d2]
          refine ⟨fun _ => ⟨fun q => ?_, fun q => ?_⟩, fun q => absurd q i1_ne0⟩
          · have hw4 : decide (l1 < 4) = decide (l3 < 4) := by
              revert q
              cases decide (l1 < 4) <;> cases decide (l3 < 4) <;> decide
            have pre : ∀ {g : AH}, zWF g → g.I 69 l1 = nI n1 → g.I 69 l3 = nI n3 → ∀ {Q : Option Value → AH → Prop}, ((v < 0 → Q (some (.int (-13))) g) ∧ (¬ v < 0 → (y < 0 → Q (some (.int (-13))) g) ∧ (¬ y < 0 → (u < 0 → Q (some (.int (-13))) g) ∧ (¬ u < 0 → ((nI n1 - y) < v → Q (some (.int (-13))) g) ∧ (¬ (nI n1 - y) < v → (v ≤ (nI n3 - u) → zQ none m_X11_move (d + 9 + 1) 98 [(0, .ref 53), (1, .int (nI l1)), (2, .int y), (3, .int (nI l3)), (4, .int u), (5, .int v), (6, .int (nI 0))] [] g Q) ∧ (¬ v ≤ (nI n3 - u) → Q (some (.int (-13))) g)))))) → zK (d + 10) m_X11_move [.ref 53, .int (nI l1), .int y, .int (nI l3), .int u, .int v] g Q := by
              intro g hg g1 g3 Q HH
              obtain ⟨H1, H2⟩ := HH
              refine r_X11_move_0 _ _ _ _ _ hg (use_pI (m_isList _) ?_)
              rw [hx]
              refine ⟨fun q => absurd q bt0, fun _ => use_pI (m_isList _) ?_⟩
              rw [hz, cl_n hl1 (by decide), cl_n hl3 (by decide), g1, g3]
              refine ⟨fun _ => ⟨v6r hl1, fun q => absurd q (nI_lt0 (by omega)), fun _ => ⟨v6r hl3, fun _ => use_pI (m_isWide hl1) (use_pI (m_isWide hl3) ?_), fun q => absurd (nI_0le (by omega)) q⟩⟩, fun q => absurd q bt0⟩
              rw [hw4]
              exact ⟨fun _ => ⟨H1, fun e1 => ⟨(H2 e1).1, fun e2 => ⟨((H2 e1).2 e2).1, fun e3 => ⟨v6r hl1, (((H2 e1).2 e2).2 e3).1, fun e4 => ⟨v6r hl3, ((((H2 e1).2 e2).2 e3).2 e4)⟩⟩⟩⟩⟩, fun q => absurd rfl q⟩
            have MB : mvB n1 n3 y u v → zK (d + 10) m_X11_move [.ref 53, .int (nI l1), .int y, .int (nI l3), .int u, .int v] h (kI fun b h2 => -13 = b ∧ LST h2 ∧ frm lsI lsL h h2) := by
              intro hb
              have R : kI (fun b h2 => -13 = b ∧ LST h2 ∧ frm lsI lsL h h2) (some (.int (-13))) h := mk_kI hw ⟨rfl, hL, frm_rf⟩
              refine pre hw c3 d3 ⟨fun _ => R, fun e1 => ⟨fun _ => R, fun e2 => ⟨fun _ => R, fun e3 => ⟨fun _ => R, fun e4 => ⟨fun e5 => ?_, fun _ => R⟩⟩⟩⟩⟩
              exfalso
              rcases hb with e | e | e | e | e
              · exact e1 e
              · exact e2 e
              · exact e3 e
              · exact e4 e
              · exact e e5
            refine ⟨fun e => mk_kI hw (MB (Or.inl e)), fun e1 => ⟨fun e => mk_kI hw (MB (Or.inr (Or.inl e))), fun e2 => ⟨fun e => mk_kI hw (MB (Or.inr (Or.inr (Or.inl e)))), fun e3 => ⟨fun e => mk_kI hw (MB (Or.inr (Or.inr (Or.inr (Or.inl e))))), fun e4 => ⟨fun e5 => ?_, fun e => mk_kI hw (MB (Or.inr (Or.inr (Or.inr (Or.inr e)))))⟩⟩⟩⟩⟩
            obtain ⟨k, hk, rfl⟩ := nI_of e1
            obtain ⟨a, ha, rfl⟩ := nI_of e2
            obtain ⟨b, hb, rfl⟩ := nI_of e3
            have f4 := e4
            have f5 := e5
            rw [Int32.lt_iff_toInt_lt, sub_ti hn1 (by omega), nI_toInt hk] at f4
            rw [Int32.le_iff_toInt_le, sub_ti hn3 (by omega), nI_toInt hk] at f5
            have hak : a + k ≤ n1 := by omega
            have hbk : b + k ≤ n3 := by omega
            rw [nI_clampE (by omega), nI_clampE (by omega), nI_clampE (by omega), show 41 + 2 * l1 + 1 = 42 + 2 * l1 by omega, show 41 + 2 * l3 + 1 = 42 + 2 * l3 by omega]
            refine ⟨⟨e2, e3, e1, by omega, by omega⟩, fun h13 q13 => mk_kI (wf_L q13 hw) ?_⟩
            have o13 : oth l3 h h13 := oth_C hl3 q13
            have x70 : h13.L 70 = h.L 70 := by
              rw [q13]
              show va_up h.L (42 + 2 * l3) _ 70 = _
              rw [va_up_ne _ _ (by omega)]
            refine pre (wf_L q13 hw) (by rw [q13]; exact c3) (by rw [q13]; exact d3) ⟨fun e => absurd e e1, fun _ => ⟨fun e => absurd e e2, fun _ => ⟨fun e => absurd e e3, fun _ => ⟨fun e => absurd e e4, fun _ => ⟨fun _ => ?_, fun e => absurd e5 e⟩⟩⟩⟩⟩
            refine zq_mono (m_mv (P := fun g => LST g ∧ frm lsI lsL h g) hl1 hl3 (by omega) (by omega) (wf_L q13 hw) (fun g hg o gi gl g70 => ⟨LST_oth hL (oth_tr o13 o) ?_, (oth_tr o13 o).1⟩)) (fun r g ⟨x, r1, r2, r3, r4⟩ => ⟨x, r1, r2, r3.symm, r4⟩)
            have gI : g.I = h.I := by rw [gi, q13]; rfl
            refine ⟨by rw [(oth_tr o13 o).1.2.2.2.1]; exact (hL l3 hl3).1, by rw [gI]; exact (hL l3 hl3).2.1, Or.inr ⟨n3, hn3, by rw [gI]; exact d1, by rw [gI]; exact d2, by rw [gI]; exact d3, fun i hi => ?_⟩⟩
            rw [gl _ (by omega), g70, x70, q13]
            show va_up h.L (42 + 2 * l3) _ (42 + 2 * l3) i = _
            rw [va_up_self]
            by_cases hib : b ≤ i ∧ i < b + k
            · rw [pk_cpy_in hib.1 hib.2, pk_cpy_in (by omega) (by omega), c4 _ (by omega)]
              congr 1; omega
            · rw [pk_cpy_out (by omega), pk_cpy_out (by omega)]
              exact d4 i hi
          · refine mk_kI hw (r_X11_move_0 _ _ _ _ _ hw (use_pI (m_isList _) ?_))
            rw [hx]
            refine ⟨fun q => absurd q bt0, fun _ => use_pI (m_isList _) ?_⟩
            rw [hz, cl_n hl1 (by decide), cl_n hl3 (by decide), c3, d3]
            refine ⟨fun _ => ⟨v6r hl1, fun q => absurd q (nI_lt0 (by omega)), fun _ => ⟨v6r hl3, fun _ => use_pI (m_isWide hl1) (use_pI (m_isWide hl3) ⟨fun e => ?_, fun _ => mk_kI hw ⟨rfl, hL, frm_rf⟩⟩), fun q => absurd (nI_0le (by omega)) q⟩⟩, fun q => absurd q bt0⟩
            exfalso
            revert q e
            cases decide (l1 < 4) <;> cases decide (l3 < 4) <;> decide
end MOVE
