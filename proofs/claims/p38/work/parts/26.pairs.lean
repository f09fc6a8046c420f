/-! both nets in step -/
def cb (c : Nat) (s : NS) : Prop := s.mv ≤ 2 * c ∧ s.cr ≤ 128 * c ∧ s.rb ≤ c ∧ s.ch ≤ c
def num (c : Nat) (s : NS) (n : Nat) (en : Nat → Ent) : Prop := GS s ∧ lgOK s.f n en ∧ cb c s
def cN (h : AH) (s : NS) (n : Nat) (en : Nat → Ent) : Prop := CN h s ∧ CL h n en
def cfr (h h' : AH) : Prop := frm [2, 4, 5, 6] [2, 3] h h' ∧ h'.L 2 10 = h.L 2 10
def ofr (h h' : AH) : Prop := frm [54, 55] [53, 58] h h' ∧ ∀ j, j ≠ 6 → h'.L 53 j = h.L 53 j
theorem cfr_rf {h : AH} : cfr h h := ⟨frm_rf, rfl⟩
theorem ofr_rf {h : AH} : ofr h h := ⟨frm_rf, fun _ _ => rfl⟩
theorem cfr_tr {h h1 h2 : AH} (a : cfr h h1) (b : cfr h1 h2) : cfr h h2 := ⟨frm_tr a.1 b.1, b.2.trans a.2⟩
theorem ofr_tr {h h1 h2 : AH} (a : ofr h h1) (b : ofr h1 h2) : ofr h h2 := ⟨frm_tr a.1 b.1, fun j q => (b.2 j q).trans (a.2 j q)⟩
section PAIRS
variable {d : Nat} {h : AH} {s : NS} {n c : Nat} {en : Nat → Ent}
theorem cN_ofr {h' : AH} (a : ofr h h') (q : cN h s n en) : cN h' s n en := ⟨CN_frm a.1 q.1 (by decide) (by decide) (by decide) (by decide), CL_frm a.1 q.2 (by decide) (by decide)⟩
theorem cb_come {u v : Nat} {x : Int32} (q : cb c s) : cb (c + 1) (comeS s u v x) := by
  obtain ⟨-, -, -, -, a5, a6, a7, a8⟩ := comeS_f s u v x
  obtain ⟨b1, b2, b3, b4⟩ := q
  exact ⟨by omega, by omega, by omega, by omega⟩
theorem cb_go {u v : Nat} (hs : s.sp ≤ 1560) (q : cb c s) : cb (c + 1) (goS s u v) := by
  obtain ⟨-, -, -, -, a5, a6, a7, a8⟩ := goS_f s u v hs
  obtain ⟨b1, b2, b3, b4⟩ := q
  exact ⟨by omega, by omega, by omega, by omega⟩
theorem cb_le {c' : Nat} (hc : c ≤ c') (q : cb c s) : cb c' s := by
  obtain ⟨b1, b2, b3, b4⟩ := q
  exact ⟨by omega, by omega, by omega, by omega⟩
theorem num_come {u v : Nat} {x : Int32} (q : num c s n en) (hu : u < 40) (hv : v < 40) (huv : u ≠ v) (hg : gb (s.f u) v = false) (hx : wbd x) : num (c + 1) (comeS s u v x) (lpush n en (u, v, true, x)).1 (lpush n en (u, v, true, x)).2 :=
  ⟨GS_come q.1 hu hv huv hg hx, by rw [(comeS_f s u v x).1]; exact lgOK_push q.2.1 hu hv huv hg hx, cb_come q.2.2⟩
theorem num_go {u v : Nat} (q : num c s n en) (hu : u < 40) (hv : v < 40) (huv : u ≠ v) (hg : gb (s.f u) v = true) : num (c + 1) (goS s u v) (lpush n en (u, v, false, s.w (pr u v))).1 (lpush n en (u, v, false, s.w (pr u v))).2 :=
  ⟨GS_go q.1 hu hv huv hg, by rw [(goS_f s u v q.1.2.2.2.1).1]; exact lgOK_push q.2.1 hu hv huv hg (q.1.2.2.2.2 _), cb_go q.1.2.2.2.1 q.2.2⟩
theorem num_bk : ∀ (k : Nat) {s : NS} {n c : Nat}, num c s n en → num (c + k) (bkS en k s n).1 (bkS en k s n).2.1 en ∧ (bkS en k s n).2.1 ≤ n
  | 0, s, n, c, q => ⟨q, Nat.le_refl _⟩
  | k + 1, s, 0, c, q => ⟨⟨q.1, q.2.1, cb_le (by omega) q.2.2⟩, Nat.le_refl _⟩
  | k + 1, s, n + 1, c, q => by
    obtain ⟨q1, ⟨⟨o1, o2, o3, o4, o5⟩, oT⟩, q3⟩ := q
    by_cases z : (en n).2.2.1 = true
    · have e : bkS en (k + 1) s (n + 1) = ((bkS en k (goS s (en n).1 (en n).2.1) n).1, (bkS en k (goS s (en n).1 (en n).2.1) n).2.1, (bkS en k (goS s (en n).1 (en n).2.1) n).2.2 + 1) := by
        show (let r := bkS en k (if (en n).2.2.1 = true then _ else _) n; (r.1, r.2.1, r.2.2 + 1)) = _
        rw [if_pos z]
      rw [z] at o4
      have := num_bk k (s := goS s (en n).1 (en n).2.1) (n := n) (c := c + 1) ⟨GS_go q1 o1 o2 o3 o4, by rw [(goS_f s _ _ q1.2.2.2.1).1]; exact oT, cb_go q1.2.2.2.1 q3⟩
      rw [e, show c + (k + 1) = c + 1 + k by omega]
      exact ⟨this.1, Nat.le_succ_of_le this.2⟩
    · have e : bkS en (k + 1) s (n + 1) = ((bkS en k (comeS s (en n).1 (en n).2.1 (en n).2.2.2) n).1, (bkS en k (comeS s (en n).1 (en n).2.1 (en n).2.2.2) n).2.1, (bkS en k (comeS s (en n).1 (en n).2.1 (en n).2.2.2) n).2.2 + 1) := by
        show (let r := bkS en k (if (en n).2.2.1 = true then _ else _) n; (r.1, r.2.1, r.2.2 + 1)) = _
        rw [if_neg z]
      have z : (en n).2.2.1 = false := ts_nt z
      rw [z] at o4
      have := num_bk k (s := comeS s (en n).1 (en n).2.1 (en n).2.2.2) (n := n) (c := c + 1) ⟨GS_come q1 o1 o2 o3 o4 o5, by rw [(comeS_f s _ _ _).1]; exact oT, cb_come q3⟩
      rw [e, show c + (k + 1) = c + 1 + k by omega]
      exact ⟨this.1, Nat.le_succ_of_le this.2⟩
theorem c_bringN {u v : Nat} {x : Int32} (hw : zWF h) (q : cN h s n en) (z : num c s n en) (hu : u < 40) (hv : v < 40) (huv : u ≠ v) (hg : gb (s.f u) v = false) : zK (d + 5) m_X3_bring [.ref 2, .int (nI u), .int (nI v), .int x] h (kV (fun h' => cN h' (comeS s u v x) (lpush n en (u, v, true, x)).1 (lpush n en (u, v, true, x)).2 ∧ cfr h h')) :=
  use_kV (c_bring hw q.1 q.2 z.1 hu hv huv hg) (fun h' hw' ⟨a1, a2, a3, a4⟩ => ⟨⟨a1, a2⟩, a3, a4⟩)
theorem c_dropN {u v : Nat} (hw : zWF h) (q : cN h s n en) (z : num c s n en) (hu : u < 40) (hv : v < 40) (huv : u ≠ v) (hg : gb (s.f u) v = true) : zK (d + 5) m_X3_drop [.ref 2, .int (nI u), .int (nI v)] h (kV (fun h' => cN h' (goS s u v) (lpush n en (u, v, false, s.w (pr u v))).1 (lpush n en (u, v, false, s.w (pr u v))).2 ∧ cfr h h')) :=
  use_kV (c_drop hw q.1 q.2 z.1 hu hv huv hg) (fun h' hw' ⟨a1, a2, a3, a4⟩ => ⟨⟨a1, a2⟩, a3, a4⟩)
theorem c_takeN (k : Nat) (hk : k ≤ 60) (hw : zWF h) (q : cN h s n en) (z : num c s n en) : zK (d + 5) m_X3_takeBack [.ref 2, .int (nI k)] h (kI (fun x h' => x = nI (bkS en k s n).2.2 ∧ cN h' (bkS en k s n).1 (bkS en k s n).2.1 en ∧ cfr h h')) :=
  use_kI (c_takeBack k hk hw q.1 q.2 z.1 z.2.1) (fun x h' hw' ⟨a1, a2, a3, _, _, a6, a7⟩ => ⟨a1, ⟨a2, a3⟩, a6, a7⟩)
end PAIRS
