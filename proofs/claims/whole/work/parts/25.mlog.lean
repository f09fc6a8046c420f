/-! the reference's log -/
def lfr (h h' : AH) : Prop := frm [54] [] h h' ∧ ∀ j, j < 6 → h'.I 54 j = h.I 54 j
theorem lfr_rf {h : AH} : lfr h h := ⟨frm_rf, fun _ _ => rfl⟩
theorem lfr_tr {h h1 h2 : AH} (a : lfr h h1) (b : lfr h1 h2) : lfr h h2 := ⟨frm_tr a.1 b.1, fun j q => (b.2 j q).trans (a.2 j q)⟩
theorem lfr_s {h h' : AH} {j : Nat} {x : Int32} (e : h' = h.sI 54 j x) (hj : 6 ≤ j) : lfr h h' :=
  ⟨frm_wI e (by decide), fun i hi => by rw [e, AH.sI_I, va_up_ne _ _ (by omega)]⟩
theorem MN_lfr {h h' : AH} {s : NS} (a : lfr h h') (hC : MN h s) : MN h' s := by
  unfold MN at *
  rw [frm_L a.1 (by decide), frm_L a.1 (by decide), frm_I a.1 (by decide), a.2 5 (by decide), a.2 0 (by decide), a.2 1 (by decide), a.2 2 (by decide), a.2 3 (by decide), a.2 4 (by decide)]
  exact hC
theorem ML_mfr {h h' : AH} {n : Nat} {en : Nat → Ent} (a : mfr h h') (hL : ML h n en) : ML h' n en := by
  obtain ⟨l1, l2, l3⟩ := hL
  refine ⟨by rw [a.2.2 6 (by decide)]; exact l1, l2, fun i hi => ?_⟩
  obtain ⟨b1, b2, b3⟩ := l3 i hi
  exact ⟨(a.2.2 _ (by omega)).trans b1, (a.2.2 _ (by omega)).trans b2, (a.2.2 _ (by omega)).trans b3⟩
section MLOG
variable {d : Nat} {h : AH} {s : NS}
theorem logs_end {g : AH} {m : Nat} {en : Nat → Ent} {x : Ent} {c : Int32} (hc : c = bI x.2.2.1) (hg : ∀ i, i < m → mE (g.I 54) i (en i)) : ∀ i, i < m + 1 → mE (va_up (va_up (va_up (va_up (g.I 54) (7 + 3 * m) (nI (pr x.1 x.2.1))) (7 + 3 * m + 1) x.2.2.2) (7 + 3 * m + 2) c) 6 (nI (m + 1))) i (va_up en m x i) := by
  intro i hi
  by_cases e : i = m
  · subst e
    rw [va_up_self]
    refine ⟨?_, ?_, ?_⟩
    · rw [va_up_ne _ _ (by omega), va_up_ne _ _ (by omega), va_up_ne _ _ (by omega), va_up_self]
    · rw [va_up_ne _ _ (by omega), va_up_ne _ _ (by omega), show 8 + 3 * i = 7 + 3 * i + 1 by omega, va_up_self]
    · rw [va_up_ne _ _ (by omega), show 9 + 3 * i = 7 + 3 * i + 2 by omega, va_up_self, hc]
  · rw [va_up_ne _ _ e]
    obtain ⟨a1, a2, a3⟩ := hg i (by omega)
    refine ⟨?_, ?_, ?_⟩ <;> rw [va_up_ne _ _ (by omega), va_up_ne _ _ (by omega), va_up_ne _ _ (by omega), va_up_ne _ _ (by omega)] <;> assumption
theorem m_logs {n : Nat} {en : Nat → Ent} {c : Bool} {u v : Nat} {x : Int32} (hw : zWF h) (hL : ML h n en) (hu : u < 40) (hv : v < 40) : zK (d + 2) m_X11_logs [.ref 53, .int (nI u), .int (nI v), .int (bI c), .int x] h (kV (fun h' => ML h' (lpush n en (u, v, c, x)).1 (lpush n en (u, v, c, x)).2 ∧ lfr h h')) := by
  obtain ⟨l1, l2, l3⟩ := id hL
  have fin : ∀ (g : AH) (m : Nat) (en' : Nat → Ent), m < 60 → zWF g → g.I 54 6 = nI m → (∀ i, i < m → mE (g.I 54) i (en' i)) → lfr h g → lpush n en (u, v, c, x) = (m + 1, va_up en' m (u, v, c, x)) →
      vp_in (nI 7 + nI 3 * g.I 54 6) 187 ∧ (∀ h6, h6 = g.sI 54 (nI 7 + nI 3 * g.I 54 6).toNatClampNeg (nI (pr u v)) → vp_in (nI 7 + nI 3 * g.I 54 6 + nI 1) 187 ∧ (∀ h8, h8 = h6.sI 54 (nI 7 + nI 3 * g.I 54 6 + nI 1).toNatClampNeg x → (bI c = 0 → vp_in (nI 7 + nI 3 * g.I 54 6 + nI 2) 187 ∧ (∀ h11, h11 = h8.sI 54 (nI 7 + nI 3 * g.I 54 6 + nI 2).toNatClampNeg (nI 0) → vp_in (nI 6) 187 ∧ (vp_in (nI 6) 187 ∧ (∀ h14, h14 = h11.sI 54 (nI 6).toNatClampNeg (h11.I 54 (nI 6).toNatClampNeg + nI 1) → kV (fun h' => ML h' (lpush n en (u, v, c, x)).1 (lpush n en (u, v, c, x)).2 ∧ lfr h h') none h14)))) ∧ (¬ bI c = 0 → vp_in (nI 7 + nI 3 * g.I 54 6 + nI 2) 187 ∧ (∀ h11, h11 = h8.sI 54 (nI 7 + nI 3 * g.I 54 6 + nI 2).toNatClampNeg (nI 1) → vp_in (nI 6) 187 ∧ (vp_in (nI 6) 187 ∧ (∀ h14, h14 = h11.sI 54 (nI 6).toNatClampNeg (h11.I 54 (nI 6).toNatClampNeg + nI 1) → kV (fun h' => ML h' (lpush n en (u, v, c, x)).1 (lpush n en (u, v, c, x)).2 ∧ lfr h h') none h14)))))) := by
    intro g m en' hm hwg g1 g3 hf hp
    rw [g1, nI_mulE, nI_add, nI_add, nI_add, cl_n (show 7 + 3 * m < 187 by omega) (by decide), cl_n (show 7 + 3 * m + 1 < 187 by omega) (by decide), cl_n (show 7 + 3 * m + 2 < 187 by omega) (by decide), k6]
    refine ⟨vp_in_nI (by omega) (by decide), fun h6 q6 => ⟨vp_in_nI (by omega) (by decide), fun h8 q8 => ?_⟩⟩
    have last : ∀ cc, cc = bI c → ∀ h11, h11 = h8.sI 54 (7 + 3 * m + 2) cc → vp_in (nI 6) 187 ∧ (vp_in (nI 6) 187 ∧ (∀ h14, h14 = h11.sI 54 6 (h11.I 54 6 + nI 1) → kV (fun h' => ML h' (lpush n en (u, v, c, x)).1 (lpush n en (u, v, c, x)).2 ∧ lfr h h') none h14)) := by
      intro cc hcc h11 q11
      refine ⟨v6, v6, fun h14 q14 => ?_⟩
      have w6 : h11.I 54 6 = nI m := by
        rw [q11, AH.sI_I, va_up_ne _ _ (by omega), q8, AH.sI_I, va_up_ne _ _ (by omega), q6, AH.sI_I, va_up_ne _ _ (by omega)]; exact g1
      rw [w6, nI_add] at q14
      refine mk_kV (wf_I q14 (wf_I q11 (wf_I q8 (wf_I q6 hwg)))) ⟨?_, lfr_tr hf (lfr_tr (lfr_s q6 (by omega)) (lfr_tr (lfr_s q8 (by omega)) (lfr_tr (lfr_s q11 (by omega)) (lfr_s q14 (by omega)))))⟩
      rw [hp]
      have e54 : h14.I 54 = va_up (va_up (va_up (va_up (g.I 54) (7 + 3 * m) (nI (pr u v))) (7 + 3 * m + 1) x) (7 + 3 * m + 2) cc) 6 (nI (m + 1)) := by rw [q14, AH.sI_I, q11, AH.sI_I, q8, AH.sI_I, q6, AH.sI_I]
      refine ⟨by rw [e54, va_up_self], hm, ?_⟩
      rw [e54]
      exact logs_end (x := (u, v, c, x)) hcc g3
    refine ⟨fun z => ⟨vp_in_nI (by omega) (by decide), last _ ?_⟩, fun z => ⟨vp_in_nI (by omega) (by decide), last _ ?_⟩⟩
    · exact bI_f (bF z)
    · exact bI_t (bT z)
  refine r_X11_logs_0 (nI u) (nI v) (bI c) x hw ⟨v6, fun q => ⟨v6, use_pI (m_edge hu hv) ?_⟩, fun q => ?_⟩
  · rw [k6] at q ⊢
    rw [l1] at q
    exact fin h n en (by rcases Nat.lt_or_ge n 60 with z | z; exact z; exact absurd (by rw [show n = 60 by omega]) q) hw l1 l3 lfr_rf (if_neg (fun z => q (by rw [z])))
  · rw [k6, l1] at q
    have hn : n = 60 := (nI_eqE (by omega) (by decide)).mp q
    subst hn
    have pass : ∀ i, i ≤ 59 → ∀ h', zWF h' → (∀ j, j < i → mE (h'.I 54) j (en (j + 1))) → (∀ j, i ≤ j → j < 60 → mE (h'.I 54) j (en j)) → h'.I 54 6 = nI 60 → lfr h h' → zQ none m_X11_logs (d + 2) 15 [(0, .ref 53), (1, .int (nI u)), (2, .int (nI v)), (3, .int (bI c)), (4, .int x), (5, .int (nI (3 * i + 3)))] [] h' (kV (fun h' => ML h' (lpush 60 en (u, v, c, x)).1 (lpush 60 en (u, v, c, x)).2 ∧ lfr h h')) := by
      refine nat_down ?_ (fun i hi ih => ?_)
      · intro h' hw' a1 a2 a3 hf
        refine r_X11_logs_15 _ _ _ _ _ hw' ⟨fun _ => ⟨v6, v6, fun h4 q4 => ⟨v6, use_pI (m_edge hu hv) ?_⟩⟩, fun q => absurd ((nI_leE (by decide) (by decide)).mpr (by decide)) q⟩
        rw [k6, a3] at q4
        rw [nI_subE (by decide)] at q4
        rw [k6]
        refine fin h4 59 (fun i => en (i + 1)) (by decide) (wf_I q4 hw') (by rw [q4]; rfl) ?_ (lfr_tr hf (lfr_s q4 (by decide))) (if_pos rfl)
        intro j hj
        obtain ⟨b1, b2, b3⟩ := a1 j hj
        rw [q4]
        exact ⟨by rw [AH.sI_I, va_up_ne _ _ (by omega)]; exact b1, by rw [AH.sI_I, va_up_ne _ _ (by omega)]; exact b2, by rw [AH.sI_I, va_up_ne _ _ (by omega)]; exact b3⟩
      · intro h' hw' a1 a2 a3 hf
        have mv : ∀ t (g : AH), zWF g → 3 * i + 3 ≤ t → t < 3 * i + 6 → (∀ g', g' = g.sI 54 (4 + t) (g.I 54 (7 + t)) → zQ none m_X11_logs (d + 2) 15 [(0, .ref 53), (1, .int (nI u)), (2, .int (nI v)), (3, .int (bI c)), (4, .int x), (5, .int (nI (t + 1)))] [] g' (kV (fun h' => ML h' (lpush 60 en (u, v, c, x)).1 (lpush 60 en (u, v, c, x)).2 ∧ lfr h h'))) → zQ none m_X11_logs (d + 2) 15 [(0, .ref 53), (1, .int (nI u)), (2, .int (nI v)), (3, .int (bI c)), (4, .int x), (5, .int (nI t))] [] g (kV (fun h' => ML h' (lpush 60 en (u, v, c, x)).1 (lpush 60 en (u, v, c, x)).2 ∧ lfr h h')) := by
          intro t g hwg ht1 ht2 hk
          refine r_X11_logs_15 _ _ _ _ _ hwg ⟨fun q => absurd ((nI_leE (by decide) (by omega)).mp q) (by omega), fun _ => ?_⟩
          rw [nI_add, nI_subE (by omega), nI_add, cl_n (show 7 + t < 187 by omega) (by decide), cl_n (show 7 + t - 3 < 187 by omega) (by decide)]
          exact ⟨vp_in_nI (by omega) (by decide), vp_in_nI (by omega) (by decide), fun g' q => hk g' (by rw [q]; congr 1; omega)⟩
        refine mv _ h' hw' (by omega) (by omega) (fun g1 q1 => mv _ g1 (wf_I q1 hw') (by omega) (by omega) (fun g2 q2 => mv _ g2 (wf_I q2 (wf_I q1 hw')) (by omega) (by omega) (fun g3 q3 => ?_)))
        have e : ∀ j, g3.I 54 j = if j = 3 * i + 7 then h'.I 54 (3 * i + 10) else if j = 3 * i + 8 then h'.I 54 (3 * i + 11) else if j = 3 * i + 9 then h'.I 54 (3 * i + 12) else h'.I 54 j := by
          intro j
          rw [q3, AH.sI_I, q2, AH.sI_I, q1, AH.sI_I]
          unfold va_up
          split <;> split <;> (try split) <;> (try split) <;> (try split) <;> (try split) <;> first | rfl | omega | (congr 1; omega)
        refine ih g3 (wf_I q3 (wf_I q2 (wf_I q1 hw'))) ?_ ?_ ?_ (lfr_tr hf (lfr_tr (lfr_s q1 (by omega)) (lfr_tr (lfr_s q2 (by omega)) (lfr_s q3 (by omega)))))
        · intro j hj
          by_cases hji : j = i
          · subst hji
            obtain ⟨b1, b2, b3⟩ := a2 (j + 1) (by omega) (by omega)
            refine ⟨?_, ?_, ?_⟩
            · rw [e, if_pos (by omega), ← b1]; congr 1; omega
            · rw [e, if_neg (by omega), if_pos (by omega), ← b2]; congr 1; omega
            · rw [e, if_neg (by omega), if_neg (by omega), if_pos (by omega), ← b3]; congr 1; omega
          · obtain ⟨b1, b2, b3⟩ := a1 j (by omega)
            refine ⟨?_, ?_, ?_⟩ <;> rw [e, if_neg (by omega), if_neg (by omega), if_neg (by omega)] <;> assumption
        · intro j hj1 hj2
          obtain ⟨b1, b2, b3⟩ := a2 j (by omega) hj2
          refine ⟨?_, ?_, ?_⟩ <;> rw [e, if_neg (by omega), if_neg (by omega), if_neg (by omega)] <;> assumption
        · rw [e, if_neg (by omega), if_neg (by omega), if_neg (by omega)]; exact a3
    exact pass 0 (by decide) h hw (fun j hj => absurd hj (by omega)) (fun j _ hj => l3 j hj) l1 lfr_rf
end MLOG
