/-! the law's loop -/
theorem vne {few u r : Nat} (hu : u < few) (hr : r + 1 < few) : (u + 1 + r) % few ≠ u := by
  by_cases h : u + 1 + r < few
  · rw [Nat.mod_eq_of_lt h]
    omega
  · rw [Nat.mod_eq_sub_mod (by omega), Nat.mod_eq_of_lt (by omega)]
    omega
section LAWS0
variable {d : Nat} {h : AH} {c : Nat} {L : Nat} {xs : Nat → Int32} {Q : Option Value → AH → Prop} {i6 : Int32}
theorem law_609k {u : Nat} (hc : c ≤ 1000000) (hw : zWF h) (q : IN c h) (hu : u < 40) (k : ∀ h', zWF h' → IN c h' → zQ (some (L, xs)) m_L_law (d + 17 + 1) 51 [(0, .ref 0), (1, .ref 1), (2, .ref 53), (3, .ref 54), (4, .ref 55), (6, .int (i6 + nI 1))] [] h' Q) : zQ (some (L, xs)) m_L_law (d + 17 + 1) 609 [(0, .ref 0), (1, .ref 1), (2, .ref 53), (3, .ref 54), (4, .ref 55), (6, .int i6), (9, .int (nI u))] [] h Q := law_609 hc hw q hu (k h hw q)
end LAWS0
section LAWS3
variable {d : Nat} {h : AH} {c : Nat} {L : Nat} {xs : Nat → Int32} {Q : Option Value → AH → Prop} {i : Nat}
theorem law_126 {u v : Nat} {i7 : Int32} (hc : c ≤ 900000) (hw : zWF h) (q : IN c h) (hu : u < 40) (hv : v < 40) (huv : u ≠ v) (nx : ∀ h' c', c' ≤ c + 1 → zWF h' → IN c' h' → zQ (some (L, xs)) m_L_law (d + 17 + 1) 51 [(0, .ref 0), (1, .ref 1), (2, .ref 53), (3, .ref 54), (4, .ref 55), (6, .int (nI i + nI 1))] [] h' Q) : zQ (some (L, xs)) m_L_law (d + 17 + 1) 126 [(0, .ref 0), (1, .ref 1), (2, .ref 53), (3, .ref 54), (4, .ref 55), (6, .int (nI i)), (7, .int i7), (9, .int (nI u)), (10, .int (nI v))] [] h Q := by
  obtain ⟨s, q, hH, hL⟩ := q
  refine r_L_law_126 L xs _ _ _ _ hw ⟨vi40 hu, ?_⟩
  rw [cl40 hu, hL.1]
  refine use_pI (l_has (d := d + 16) hw (by omega)) ?_
  obtain ⟨k, hk, ek⟩ := m7 i7
  refine r_L_law_137 L xs _ _ _ _ _ hw (use_kL (q_told (d := d + 1) 1 (by decide) hw q) (fun x h1 hw1 ⟨ex, eh⟩ => ?_))
  subst ex eh
  refine use_kL (q_told (d := d + 1) 0 (by decide) hw q) (fun x h2 hw2 ⟨ex, eh⟩ => ?_)
  subst ex eh
  refine use_kI (q_two0 (d := d + 1) hw q hu hv huv) (fun x h3 hw3 ⟨ex, eh⟩ => ?_)
  subst ex eh
  rw [ek]
  exact law_169 hw q hH hL hu hv huv (fun h' c' hc' hw' q' => law_609k (by omega) hw' q' hu (fun h2 hw2 q2 => nx h2 c' hc' hw2 q2))
theorem law_65 (hc : c ≤ 900000) (hi : i < 1000) (hLL : L ≤ 260) (hw : zWF h) (q : IN c h) (nx : ∀ h' c', c' ≤ c + 1 → zWF h' → IN c' h' → zQ (some (L, xs)) m_L_law (d + 17 + 1) 51 [(0, .ref 0), (1, .ref 1), (2, .ref 53), (3, .ref 54), (4, .ref 55), (6, .int (nI i + nI 1))] [] h' Q) : zQ (some (L, xs)) m_L_law (d + 17 + 1) 65 [(0, .ref 0), (1, .ref 1), (2, .ref 53), (3, .ref 54), (4, .ref 55), (6, .int (nI i))] [] h Q := by
  refine r_L_law_65 L xs _ hw (l_cell (d := d + 16) hw hi hLL (fun i7 => ?_))
  have go : ∀ few : Nat, 9 ≤ few → few ≤ 40 → zQ (some (L, xs)) m_L_law (d + 17 + 1) 91 [(0, .ref 0), (1, .ref 1), (2, .ref 53), (3, .ref 54), (4, .ref 55), (6, .int (nI i)), (7, .int i7), (8, .int (nI few))] [] h Q := by
    intro few f1 f2
    have hne : ¬ nI few = 0 := fun z => by rw [nI_eq0 (by omega)] at z; omega
    have hne2 : ¬ nI few - nI 1 = 0 := fun z => by rw [nI_subE (by omega), nI_eq0 (by omega)] at z; omega
    refine r_L_law_91 L xs _ _ _ hw ⟨hne, ?_⟩
    obtain ⟨a, ha, ea⟩ := m63 (i7 >>> (nI 5 &&& 31))
    rw [ea, nI_remE (by omega) (by omega) (by omega)]
    have hu : a % few < few := Nat.mod_lt _ (by omega)
    refine r_L_law_103 L xs _ _ _ _ hw ⟨hne2, hne, ?_⟩
    obtain ⟨b, hb, eb⟩ := m63 (i7 >>> (nI 11 &&& 31))
    have hr : b % (few - 1) < few - 1 := Nat.mod_lt _ (by omega)
    rw [eb, nI_subE (by omega), nI_remE (by omega) (by omega) (by omega), nI_add, nI_add, nI_remE (by omega) (by omega) (by omega)]
    exact law_126 hc hw q (by omega) (Nat.lt_of_lt_of_le (Nat.mod_lt _ (by omega)) f2) (fun e => vne hu (by omega) e.symm) nx
  exact r_L_law_73 L xs _ _ hw ⟨fun _ => go 9 (by decide) (by decide), fun _ => go 40 (by decide) (by decide)⟩
theorem law_51 (hLL : L ≤ 260) (KQ : ∀ h c, IN c h → Q (some (.int (nI 1))) h) : ∀ n i, n + i = 64 → ∀ h c, c + n ≤ 1000 → zWF h → IN c h → zQ (some (L, xs)) m_L_law (d + 17 + 1) 51 [(0, .ref 0), (1, .ref 1), (2, .ref 53), (3, .ref 54), (4, .ref 55), (6, .int (nI i))] [] h Q := by
  intro n
  induction n with
  | zero =>
    intro i hn h c hc hw q
    refine r_L_law_51 L xs _ hw ?_
    rw [nI_leE (by omega) (by omega), nI_leE (by omega) (by omega)]
    exact ⟨fun _ => r_L_law_741 L xs hw (KQ h c q), fun _ => ⟨fun _ => r_L_law_741 L xs hw (KQ h c q), fun z => absurd z (by omega)⟩⟩
  | succ n ih =>
    intro i hn h c hc hw q
    refine r_L_law_51 L xs _ hw ?_
    rw [nI_leE (by omega) (by omega), nI_leE (by omega) (by omega)]
    refine ⟨fun _ => r_L_law_741 L xs hw (KQ h c q), fun _ => ⟨fun _ => r_L_law_741 L xs hw (KQ h c q), fun _ => ?_⟩⟩
    refine law_65 (by omega) (by omega) hLL hw q (fun h' c' hc' hw' q' => ?_)
    rw [nI_add]
    exact ih (i + 1) (by omega) h' c' (by omega) hw' q'
end LAWS3
