/-! a whole BATCH, read on both sides -/
theorem nok_b {len n gr p : Nat} {T : Nat → Nat} (e : nok len T n gr p = true) : (rd len T n p 0).1 ≠ p ∧ (rd len T n p 0).2 ≤ gr := by
  unfold nok at e
  rw [Bool.and_eq_true, decide_eq_true_iff, decide_eq_true_iff] at e
  exact e
theorem sNum_ok {len n gr p : Nat} {T : Nat → Nat} (hp : p ≤ len) (e : (sNum len T n gr (p, none)).2 = none) : nok len T n gr p = true ∧ p + 1 ≤ (rd len T n p 0).1 ∧ (rd len T n p 0).1 ≤ len ∧ (rd len T n p 0).2 ≤ gr := by
  cases z : nok len T n gr p with
  | false => rw [sNum_f z] at e; cases e
  | true =>
    have h1 := nok_b z
    have h2 := rd_le (len := len) (T := T) n p 0 hp
    exact ⟨rfl, by omega, h2.1, h1.2⟩
def pok (t : PT) : Prop := (t.1 = 42 ∨ t.1 = 43 ∨ t.1 = 45 ∨ t.1 = 126) ∧ t.2.1 < 40 ∧ t.2.2.1 < 40 ∧ (t.1 ≠ 42 → t.2.1 ≠ t.2.2.1) ∧ wbd t.2.2.2
theorem wbd_1n : wbd (nI 1) := ⟨by decide, by decide⟩
theorem wbd_p {n : Nat} (h : n ≤ 2000000) : wbd (nI n) ∧ wbd (- nI n) := by
  have e : (nI n).toInt = n := nI_toInt (by omega)
  refine ⟨⟨by omega, by omega⟩, ?_⟩
  have e2 : (- nI n).toInt = - (n : Int) := by
    rw [Int32.toInt_neg, e]
    exact Int.bmod_eq_of_le (by omega) (by omega)
  exact ⟨by omega, by omega⟩
theorem isK_b {k : Nat} (h : isK k = true) : k = 42 ∨ k = 43 ∨ k = 45 ∨ k = 126 := by
  unfold isK at h
  rw [Bool.or_eq_true, Bool.or_eq_true, Bool.or_eq_true, decide_eq_true_iff, decide_eq_true_iff, decide_eq_true_iff, decide_eq_true_iff] at h
  omega
section PARTS
variable {len p : Nat} {T : Nat → Nat}
theorem sNum_no {n gr : Nat} {s : SS} (g : gd len s) (e : (sNum len T n gr s).2 = none) : s.2 = none := by
  rcases gd_e g with q | ⟨f, q⟩
  · rw [q]
  · rw [q, sNum_d] at e; cases e
theorem sNeed_no {t : Nat} {s : SS} (ht : t ≤ 160) (g : gd len s) (e : (sNeed len T t s).2 = none) : s.2 = none ∧ tk len T s.1 t = true := by
  rcases gd_e g with q | ⟨f, q⟩
  · cases z : tk len T s.1 t with
    | true => rw [q]; exact ⟨rfl, rfl⟩
    | false => rw [q, sNeed_f z] at e; cases e
  · rw [q, sNeed_d ht] at e; cases e
theorem sOther_no {u : Nat} {s : SS} (g : gd len s) (e : (sOther len T u s).2 = none) : s.2 = none ∧ nok len T 2 39 s.1 = true ∧ ¬ (rd len T 2 s.1 0).2 = u := by
  rcases gd_e g with q | ⟨f, q⟩
  · cases z : nok len T 2 39 s.1 with
    | true =>
      by_cases y : (rd len T 2 s.1 0).2 = u
      · rw [q, sOther_s z y] at e; cases e
      · rw [q]; exact ⟨rfl, rfl, y⟩
    | false => rw [q, sOther_f z] at e; cases e
  · rw [q, sOther_d] at e; cases e
theorem sPart_gd : gd len (sPart len T (p, none)).1 := by
  unfold sPart
  split
  · unfold sP
    dsimp only
    split
    · exact gd_num _ _ (gd_n _ _)
    · have g4 : gd len (sOther len T (rd len T 2 (p + 1) 0).2 (sNeed len T 44 (sNum len T 2 39 (p + 1, none)))) := gd_other (gd_need (by decide) (gd_num _ _ (gd_n _ _)))
      split
      · exact gd_num _ _ (gd_take (by decide) (gd_take (by decide) g4))
      · exact g4
  · exact gd_fail _ (gd_n _ _)
theorem sPart_no (hlen : len ≤ 160) (e : (sPart len T (p, none)).1.2 = none) : p + 2 ≤ (sPart len T (p, none)).1.1 ∧ (sPart len T (p, none)).1.1 ≤ len ∧ pok (sPart len T (p, none)).2 := by
  have hk := sPart_ok rfl e
  rw [sPart_k hk] at e ⊢
  rw [Bool.and_eq_true, decide_eq_true_iff] at hk
  obtain ⟨hlt, hk⟩ := hk
  have hlt : p + 1 ≤ len := hlt
  have hk := isK_b hk
  generalize T p = k at hk e ⊢
  unfold sP at e ⊢
  dsimp only at e ⊢
  by_cases z : k = 42
  · rw [if_pos z] at e ⊢
    obtain ⟨h1, h2, h3, h4⟩ := sNum_ok hlt e
    rw [sNum_t h1]
    exact ⟨h2, h3, hk, by show (rd len T 2 (p + 1) 0).2 < 40; omega, by show (rd len T 2 (p + 1) 0).2 < 40; omega, fun q => absurd z q, wbd_1n⟩
  · rw [if_neg z] at e ⊢
    have g2 : gd len (sNum len T 2 39 (p + 1, none)) := gd_num _ _ (gd_n _ _)
    have g3 : gd len (sNeed len T 44 (sNum len T 2 39 (p + 1, none))) := gd_need (by decide) g2
    have g4 : gd len (sOther len T (rd len T 2 (p + 1) 0).2 (sNeed len T 44 (sNum len T 2 39 (p + 1, none)))) := gd_other g3
    have main : (sOther len T (rd len T 2 (p + 1) 0).2 (sNeed len T 44 (sNum len T 2 39 (p + 1, none)))).2 = none → p + 2 ≤ (sOther len T (rd len T 2 (p + 1) 0).2 (sNeed len T 44 (sNum len T 2 39 (p + 1, none)))).1 ∧ (sOther len T (rd len T 2 (p + 1) 0).2 (sNeed len T 44 (sNum len T 2 39 (p + 1, none)))).1 ≤ len ∧ (rd len T 2 (p + 1) 0).2 < 40 ∧ (rd len T 2 (sNeed len T 44 (sNum len T 2 39 (p + 1, none))).1 0).2 < 40 ∧ (rd len T 2 (p + 1) 0).2 ≠ (rd len T 2 (sNeed len T 44 (sNum len T 2 39 (p + 1, none))).1 0).2 := by
      intro e4
      obtain ⟨e3, n3, v3⟩ := sOther_no g3 e4
      obtain ⟨e2, t2⟩ := sNeed_no (by decide) g2 e3
      obtain ⟨h1, h2, h3, h4⟩ := sNum_ok hlt e2
      rw [sNum_t h1] at t2 n3 v3 ⊢
      rw [sNeed_t t2] at n3 v3 ⊢
      have t2 : tk len T (rd len T 2 (p + 1) 0).1 44 = true := t2
      have n3 : nok len T 2 39 ((rd len T 2 (p + 1) 0).1 + 1) = true := n3
      have v3 : ¬ (rd len T 2 ((rd len T 2 (p + 1) 0).1 + 1) 0).2 = (rd len T 2 (p + 1) 0).2 := v3
      rw [sOther_t n3 v3]
      have hb := nok_b n3
      have ht : (rd len T 2 (p + 1) 0).1 + 1 ≤ len := tk_lt (by decide) t2
      have hr := rd_le (len := len) (T := T) 2 ((rd len T 2 (p + 1) 0).1 + 1) 0 ht
      refine ⟨?_, hr.1, by omega, ?_, fun q => v3 q.symm⟩
      · show p + 2 ≤ (rd len T 2 ((rd len T 2 (p + 1) 0).1 + 1) 0).1
        omega
      · show (rd len T 2 ((rd len T 2 (p + 1) 0).1 + 1) 0).2 < 40
        omega
    generalize (rd len T 2 (sNeed len T 44 (sNum len T 2 39 (p + 1, none))).1 0).2 = v at *
    generalize sOther len T (rd len T 2 (p + 1) 0).2 (sNeed len T 44 (sNum len T 2 39 (p + 1, none))) = s4 at *
    generalize (rd len T 2 (p + 1) 0).2 = u at *
    by_cases y : k = 43 ∧ tk len T s4.1 61 = true
    · rw [if_pos y] at e ⊢
      dsimp only at e ⊢
      have e5 := sNum_no (gd_take (by decide) (gd_take (by decide) g4)) e
      have e4 : s4.2 = none := e5
      obtain ⟨m1, m2, m3, m4, m5⟩ := main e4
      have es : s4 = (s4.1, none) := by rw [← e4]
      rw [es] at e ⊢
      generalize s4.1 = q at *
      have hq : q + 1 ≤ len := tk_lt (by decide) y.2
      rw [sTake_t (s := (q, none)) y.2] at e ⊢
      unfold wv
      cases e45 : tk len T (q + 1) 45 with
      | true =>
        rw [sTake_t (s := (q + 1, none)) e45] at e ⊢
        have hq2 : q + 1 + 1 ≤ len := tk_lt (by decide) e45
        obtain ⟨h1, h2, h3, h4⟩ := sNum_ok hq2 e
        rw [sNum_t h1]
        have h2 : q + 1 + 1 + 1 ≤ (rd len T 7 (q + 1 + 1) 0).1 := h2
        refine ⟨?_, h3, hk, m3, m4, fun _ => m5, ?_⟩
        · show p + 2 ≤ (rd len T 7 (q + 1 + 1) 0).1
          omega
        · show wbd (if true = true then - nI (rd len T 7 (q + 1 + 1) 0).2 else nI (rd len T 7 (q + 1) 0).2)
          rw [if_pos rfl]
          exact (wbd_p h4).2
      | false =>
        rw [sTake_f (s := (q + 1, none)) e45] at e ⊢
        obtain ⟨h1, h2, h3, h4⟩ := sNum_ok hq e
        rw [sNum_t h1]
        refine ⟨?_, h3, hk, m3, m4, fun _ => m5, ?_⟩
        · show p + 2 ≤ (rd len T 7 (q + 1) 0).1
          omega
        · show wbd (if false = true then - nI (rd len T 7 (q + 1 + 1) 0).2 else nI (rd len T 7 (q + 1) 0).2)
          rw [if_neg (by decide)]
          exact (wbd_p h4).1
    · rw [if_neg y] at e ⊢
      obtain ⟨m1, m2, m3, m4, m5⟩ := main e
      exact ⟨m1, m2, hk, m3, m4, fun _ => m5, wbd_1n⟩
end PARTS
