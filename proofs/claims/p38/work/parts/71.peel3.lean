/-! the class's peeling: the turns -/
theorem sub_lt0 : ∀ a, a < 65 → ∀ b, b < 65 → ((nI a - nI b < 0 ↔ a < b) ∧ (nI a - nI b = 0 ↔ a = b)) := by decide +kernel
theorem i_sub2 (x : Int32) (a b : Nat) : x - nI a - nI b = x - nI (a + b) := by
  rw [← nI_add]
  apply Int32.toBitVec_inj.mp
  rw [Int32.toBitVec_sub, Int32.toBitVec_sub, Int32.toBitVec_sub, Int32.toBitVec_add]
  apply BitVec.eq_of_toNat_eq
  rw [BitVec.toNat_sub, BitVec.toNat_sub, BitVec.toNat_sub, BitVec.toNat_add]
  have h1 := (nI a).toBitVec.isLt
  have h2 := (nI b).toBitVec.isLt
  have h3 := x.toBitVec.isLt
  omega
section TURNS
variable {d : Nat} {f : Nat → Int64}
theorem lx_tr {g : Nat → Int64} {a b c : Nat} (h1 : lxe g a b) (h2 : lxe g b c) : lxe g a c := by
  unfold lxe at *
  omega
theorem c_leastFrom {h : AH} {g : Nat → Int64} {m t : Nat} {o : Nat → Nat} (hm : m ≤ 780) (ht : t < m) (hw : zWF h) (h8 : h.I 12 8 = nI m) (ho : ∀ i, i < m → h.I 18 i = nI (o i)) (h16 : ∀ i, t ≤ i → i < m → o i < 1600) (h15 : ∀ i, t ≤ i → i < m → h.I 15 (o i) = nI (sup g (o i))) : zK (d + 1) m_X6_leastFrom [.ref 12, .int (nI t)] h (pI h (fun x => ∃ p, x = nI p ∧ t ≤ p ∧ p < m ∧ ∀ j, t ≤ j → j < m → lxe g (o p) (o j))) := by
  refine r_X6_leastFrom_0 _ hw ?_
  rw [nI_add]
  have key : ∀ n i b, n + i = m → t ≤ b → b < i → (∀ j, t ≤ j → j < i → lxe g (o b) (o j)) → zQ none m_X6_leastFrom (d + 1) 6 [(0, .ref 12), (2, .int (nI b)), (3, .int (nI i))] [] h (pI h (fun x => ∃ p, x = nI p ∧ t ≤ p ∧ p < m ∧ ∀ j, t ≤ j → j < m → lxe g (o p) (o j))) := by
    intro n
    induction n with
    | zero =>
      intro i b hn h1 h2 h3
      rw [Nat.zero_add] at hn
      subst hn
      refine r_X6_leastFrom_6 _ _ hw ⟨fun _ => ⟨_, rfl, rfl, b, rfl, h1, h2, h3⟩, fun z => absurd (by rw [h8]; exact (nI_leE (by omega) (by omega)).mpr (Nat.le_refl _)) z⟩
    | succ n ih =>
      intro i b hn h1 h2 h3
      have hi : i < m := by omega
      have hb : b < m := by omega
      have ei := h16 i (by omega) hi
      have eb := h16 b h1 hb
      have yi : lxe g (o b) (o i) → zQ none m_X6_leastFrom (d + 1) 6 [(0, .ref 12), (2, .int (nI b)), (3, .int (nI (i + 1)))] [] h (pI h (fun x => ∃ p, x = nI p ∧ t ≤ p ∧ p < m ∧ ∀ j, t ≤ j → j < m → lxe g (o p) (o j))) := fun q => ih (i + 1) b (by omega) h1 (by omega) (fun j j1 j2 => by
        by_cases e : j = i
        · rw [e]; exact q
        · exact h3 j j1 (by omega))
      have yb : lxe g (o i) (o b) → zQ none m_X6_leastFrom (d + 1) 6 [(0, .ref 12), (2, .int (nI i)), (3, .int (nI (i + 1)))] [] h (pI h (fun x => ∃ p, x = nI p ∧ t ≤ p ∧ p < m ∧ ∀ j, t ≤ j → j < m → lxe g (o p) (o j))) := fun q => ih (i + 1) i (by omega) (by omega) (by omega) (fun j j1 j2 => by
        by_cases e : j = i
        · rw [e]; exact Or.inr ⟨rfl, Nat.le_refl _⟩
        · exact lx_tr q (h3 j j1 (by omega)))
      refine r_X6_leastFrom_6 _ _ hw ⟨fun z => absurd (by rw [h8] at z; exact (nI_leE (by omega) (by omega)).mp z) (show ¬ m ≤ i by omega), fun _ => ⟨v780 (by omega), ?_⟩⟩
      rw [cl_n (show i < 780 by omega) (by decide), cl_n (show b < 780 by omega) (by decide), ho i hi, ho b hb, cl_n ei (by decide), cl_n eb (by decide), h15 i (by omega) hi, h15 b h1 hb, nI_add, nI_leE (by omega) (by omega)]
      have si := sup_le g (o i)
      have sb := sup_le g (o b)
      obtain ⟨L0, E0⟩ := sub_lt0 (sup g (o i)) (by omega) (sup g (o b)) (by omega)
      rw [ne_eq, L0, E0]
      refine ⟨v1600 ei, v780 (by omega), v1600 eb, fun z => yb (Or.inl z), fun z => ⟨fun y => yi (Or.inl (by omega)), fun y => ⟨v780 (by omega), v780 (by omega), fun w => yi (Or.inr ⟨y.symm, w⟩), fun w => yb (Or.inr ⟨y, by omega⟩)⟩⟩⟩
  exact key (m - (t + 1)) (t + 1) t (by omega) (Nat.le_refl _) (Nat.lt_succ_self _) (fun j j1 j2 => by
    rw [show j = t by omega]; exact Or.inr ⟨rfl, Nat.le_refl _⟩)
theorem c_takeAway {h : AH} {g : Nat → Int64} {u v : Nat} (hw : zWF h) (hg : GF g) (hl : ∀ k, k < 40 → h.L 14 k = g k) (hu : u < 40) (hv : v < 40) (huv : u ≠ v) (hE : gb (g u) v = true) : zK (d + 2) m_X6_takeAway [.ref 12, .int (nI u), .int (nI v)] h (kV (fun h' => (∀ k, k < 40 → h'.L 14 k = flip g u v k) ∧ (∀ e, e < 1600 → h'.I 15 e = h.I 15 e - nI (dc (flip g u v u &&& flip g u v v) u v e 40)) ∧ frm [15] [14] h h')) := by
  refine r_X6_takeAway_0 _ _ hw ⟨vi40 hu, vi40 hu, fun h3 q3 => ⟨vi40 hv, vi40 hv, fun h6 q6 => ⟨vi40 hu, vi40 hv, ?_⟩⟩⟩
  rw [cl40 hu, hl u hu] at q3
  change h3 = h.sL 14 u (g u &&& (one v ^^^ (-1))) at q3
  rw [andn_xor (by omega) hE] at q3
  have x3 : h3.L 14 = va_up (h.L 14) u (g u ^^^ one v) := by rw [q3, AH.sL_L]
  rw [cl40 hv, x3, va_up_ne _ _ (fun q => huv q.symm), hl v hv] at q6
  change h6 = h3.sL 14 v (g v &&& (one u ^^^ (-1))) at q6
  rw [andn_xor (by omega) (by rw [hg.1]; exact hE)] at q6
  have hw6 := wf_L q6 (wf_L q3 hw)
  have l6 : ∀ k, k < 40 → h6.L 14 k = flip g u v k := fun k hk => by
    rw [q6, AH.sL_L, x3]
    unfold flip
    by_cases e : k = v
    · rw [e, va_up_self, va_up_self]
    · rw [va_up_ne _ _ e, va_up_ne _ _ e]
      by_cases e2 : k = u
      · rw [e2, va_up_self, va_up_self]
      · rw [va_up_ne _ _ e2, va_up_ne _ _ e2]; exact hl k hk
  have i6 : h6.I 15 = h.I 15 := by rw [q6, q3]; rfl
  have f6 : frm [15] [14] h h6 := frm_tr (frm_wL q3 (by decide)) (frm_wL q6 (by decide))
  rw [cl40 hu, cl40 hv, l6 u hu, l6 v hv]
  generalize flip g u v u &&& flip g u v v = B
  have key : ∀ i, i ≤ 40 → ∀ k, zWF k → frm [15] [] h6 k → (∀ e, e < 1600 → k.I 15 e = h.I 15 e - nI (dc B u v e i)) → zQ none m_X6_takeAway (d + 1 + 1) 49 [(0, .ref 12), (1, .int (nI u)), (2, .int (nI v)), (3, .long B), (5, .int (nI i))] [] k (kV (fun h' => (∀ k, k < 40 → h'.L 14 k = flip g u v k) ∧ (∀ e, e < 1600 → h'.I 15 e = h.I 15 e - nI (dc B u v e 40)) ∧ frm [15] [14] h h')) := by
    refine nat_down ?_ (fun i hi ih => ?_)
    · intro k hk fk hS
      exact r_X6_takeAway_49 _ _ _ _ hk ⟨fun _ => mk_kV hk ⟨fun j hj => by rw [frm_L fk List.not_mem_nil]; exact l6 j hj, hS, frm_tr f6 (frm_up fk (by decide) (by decide))⟩, fun z => absurd e40 z⟩
    · intro k hk fk hS
      refine r_X6_takeAway_49 _ _ _ _ hk ⟨fun z => absurd z (n40 hi), fun _ => use_pI (c_hasBit (by omega)) ⟨fun z => ?_, fun z => use_pI (c_pairOf hu hi) ⟨v1600 (pr_lt hu hi), v1600 (pr_lt hu hi), fun h7 q7 => ?_⟩⟩⟩
      · rw [nI_add]
        refine ih k hk fk (fun e he => ?_)
        rw [dc_s, if_neg (by rw [bF z]; decide), Nat.add_zero]
        exact hS e he
      · rw [cl_n (pr_lt hu hi) (by decide)] at q7
        have hw7 := wf_I q7 hk
        refine use_pI (c_pairOf hv hi) ⟨v1600 (pr_lt hv hi), v1600 (pr_lt hv hi), fun h11 q11 => ?_⟩
        rw [cl_n (pr_lt hv hi) (by decide)] at q11
        rw [nI_add]
        refine ih h11 (wf_I q11 hw7) (frm_tr fk (frm_tr (frm_wI q7 (by decide)) (frm_wI q11 (by decide)))) (fun e he => ?_)
        have s7 : ∀ e, e < 1600 → h7.I 15 e = k.I 15 e - nI (if e = pr u i then 1 else 0) := fun e he => by
          rw [q7, AH.sI_I]
          by_cases y : e = pr u i
          · rw [y, va_up_self, if_pos rfl]
          · rw [va_up_ne _ _ y, if_neg y, i0_eq0, Int32.sub_zero]
        have s11 : h11.I 15 e = h7.I 15 e - nI (if e = pr v i then 1 else 0) := by
          rw [q11, AH.sI_I]
          by_cases y : e = pr v i
          · rw [y, va_up_self, if_pos rfl]
          · rw [va_up_ne _ _ y, if_neg y, i0_eq0, Int32.sub_zero]
        rw [s11, s7 e he, hS e he, i_sub2, i_sub2, dc_s, if_pos (bT z)]
  exact key 0 (Nat.zero_le _) h6 hw6 frm_rf (fun e he => by rw [i6]; show h.I 15 e = h.I 15 e - nI 0; rw [i0_eq0, Int32.sub_zero])
end TURNS
