/-! the law sees the net as it keeps it itself -/
theorem lg_gt {x y : Int64} : 0 < lg_cmp x y ↔ y < x := by
  unfold lg_cmp
  by_cases h : x > y
  · rw [if_pos h]; exact ⟨fun _ => h, fun _ => by decide⟩
  · rw [if_neg h]
    refine ⟨fun q => ?_, fun q => absurd q h⟩
    split at q <;> exact absurd q (by decide)
theorem lg_ge {x y : Int64} : 0 ≤ lg_cmp x y ↔ ¬ x < y := by
  unfold lg_cmp
  by_cases h : x > y
  · rw [if_pos h]
    exact ⟨fun _ => Int64.not_lt.mpr (Int64.le_of_lt h), fun _ => by decide⟩
  · rw [if_neg h]
    by_cases e : x = y
    · rw [if_pos e]
      exact ⟨fun _ q => by rw [e] at q; exact Int64.lt_irrefl q, fun _ => by decide⟩
    · rw [if_neg e]
      refine ⟨fun q => absurd q (by decide), fun q => absurd ?_ q⟩
      exact Int64.lt_of_le_of_ne (Int64.not_lt.mp h) e
theorem lg_le {x y : Int64} : lg_cmp x y ≤ 0 ↔ ¬ y < x := by
  rw [← lg_gt]
  exact Int32.not_lt.symm
theorem CS_up {c c' : Nat} {s : NS} {h : AH} (hc : c ≤ c') (q : CS c s h) : CS c' s h := by
  obtain ⟨⟨n, en, q1, q2, q3, q4⟩, q5⟩ := q
  exact ⟨⟨n, en, q1, q2, q3, cb_le hc q4⟩, q5⟩
theorem CS_cb {c : Nat} {s : NS} {h : AH} (q : CS c s h) : cb c s := by
  obtain ⟨⟨n, en, q1, q2, q3, q4⟩, q5⟩ := q
  exact q4
theorem CS_sp {c : Nat} {s : NS} {h : AH} (q : CS c s h) : 1 ≤ s.sp ∧ s.sp ≤ 1560 ∧ s.E ≤ 780 := by
  obtain ⟨⟨n, en, q1, q2, q3, q4⟩, q5⟩ := q
  exact ⟨q2.2.2.1, q2.2.2.2.1, by rw [q2.2.1]; exact ec_le _⟩
theorem one_one : nI 1 &&& nI 1 = nI 1 := by decide
section SEES
variable {d : Nat} {h : AH} {s : NS} {c : Nat}
theorem l_sees (hc : c ≤ 1000000) (hw : zWF h) (q : CS c s h) (hL : LN h s) : zK (d + 17) m_L_sees [.ref 1, .ref 53, .ref 54, .ref 55] h (kI fun x h' => x = nI 1 ∧ h' = h) := by
  obtain ⟨e1, e3, e4, e5, e6, e7, e8, e9⟩ := id hL
  obtain ⟨b1, b2, b3, b4⟩ := CS_cb q
  obtain ⟨s1, s2, s3⟩ := CS_sp q
  have hb := bnd_le s.sp
  refine r_L_sees_0 hw ?_
  refine use_kL (q_told (d := d) 0 (by decide) hw q) (fun x h1 hw1 ⟨ex, eh⟩ => ⟨w5, ?_⟩)
  subst ex eh
  rw [k5, e3, nI_l (by omega)]
  refine ⟨fun z => absurd ((lg_cmp0 _ _).mpr rfl) z, fun _ => ?_⟩
  refine use_kL (q_told (d := d) 3 (by decide) hw q) (fun x h1 hw1 ⟨ex, eh⟩ => ⟨w0, ?_⟩)
  subst ex eh
  rw [k0, e4, nI_l (by omega)]
  refine ⟨fun z => absurd ((lg_cmp0 _ _).mpr rfl) z, fun _ => ?_⟩
  refine use_kL (q_told (d := d) 4 (by decide) hw q) (fun x h1 hw1 ⟨ex, eh⟩ => ?_)
  subst ex eh
  refine use_pI (l_bound (d := d + 15) hw e4 (show s.sp ≤ 1600 by omega)) ?_
  rw [nI_l (by omega)]
  refine ⟨fun z => absurd ((lg_cmp0 _ _).mpr rfl) z, fun _ => ?_⟩
  refine use_kL (q_told (d := d) 5 (by decide) hw q) (fun x h1 hw1 ⟨ex, eh⟩ => ⟨o0, ?_⟩)
  subst ex eh
  rw [e5]
  refine ⟨fun z => absurd ((lg_cmp0 _ _).mpr rfl) z, fun _ => ?_⟩
  refine use_kL (q_told (d := d) 6 (by decide) hw q) (fun x h1 hw1 ⟨ex, eh⟩ => ⟨w1, ?_⟩)
  subst ex eh
  rw [k1, e6, nI_l (by omega)]
  refine ⟨fun z => absurd ((lg_cmp0 _ _).mpr rfl) z, fun _ => ?_⟩
  refine use_kL (q_told (d := d) 7 (by decide) hw q) (fun x h1 hw1 ⟨ex, eh⟩ => ⟨w2, ?_⟩)
  subst ex eh
  rw [k2, e7, nI_l (by omega)]
  refine ⟨fun z => absurd ((lg_cmp0 _ _).mpr rfl) z, fun _ => ?_⟩
  refine use_kL (q_told (d := d) 8 (by decide) hw q) (fun x h1 hw1 ⟨ex, eh⟩ => ⟨w3, ?_⟩)
  subst ex eh
  rw [k3, e8, nI_l (by omega)]
  refine ⟨fun z => absurd ((lg_cmp0 _ _).mpr rfl) z, fun _ => ?_⟩
  refine use_kL (q_told (d := d) 9 (by decide) hw q) (fun x h1 hw1 ⟨ex, eh⟩ => ⟨w4, ?_⟩)
  subst ex eh
  rw [k4, e9, nI_l (by omega)]
  refine ⟨fun z => absurd ((lg_cmp0 _ _).mpr rfl) z, fun _ => ?_⟩
  refine r_L_sees_115 _ hw ?_
  refine nat_down (N := 40) (P := fun i => zQ none m_L_sees (d + 16 + 1) 118 [(0, .ref 1), (1, .ref 53), (4, .int (nI 1)), (5, .int (nI i))] [] h1 (kI fun x h' => x = nI 1 ∧ h' = h1)) ?_ (fun i hi ih => ?_) 0 (Nat.zero_le _)
  · exact r_L_sees_118 _ _ hw ⟨fun _ => ⟨Or.inr rfl, mk_kI hw ⟨rfl, rfl⟩⟩, fun z => absurd e40 z⟩
  · refine r_L_sees_118 _ _ hw ⟨fun z => absurd z (n40 hi), fun _ => use_kL (q_near (d := d) hw q hi) (fun x h2 hw2 ⟨ex, eh⟩ => ⟨vi40 hi, ?_⟩)⟩
    subst ex eh
    rw [cl40 hi, e1, nI_add, one_one]
    exact ⟨fun z => absurd ((lg_cmp0 _ _).mpr rfl) z, fun _ => ih⟩
end SEES
