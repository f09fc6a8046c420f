/-! both nets in step -/
def cb (c : Nat) (s : NS) : Prop := s.mv ≤ 2 * c ∧ s.cr ≤ 128 * c ∧ s.rb ≤ c ∧ s.ch ≤ c
def num (c : Nat) (s : NS) (n : Nat) (en : Nat → Ent) : Prop := GS s ∧ lgOK s.f n en ∧ cb c s
def cN (h : AH) (s : NS) (n : Nat) (en : Nat → Ent) : Prop := CN h s ∧ CL h n en
def mN (h : AH) (s : NS) (n : Nat) (en : Nat → Ent) : Prop := MN h s ∧ ML h n en
/-- the rows that a call may use up: those of the two nets, and what is laid out anew at each use -/
def scI : List Nat := [2, 4, 5, 6, 54, 55, 21, 25, 26, 27, 28, 29, 30, 32, 33, 34, 35, 36, 40, 60, 62, 63, 64, 65, 67]
def scL : List Nat := [2, 3, 53, 58, 22, 31, 61]
def same (h h' : AH) : Prop := frm scI scL h h' ∧ h'.L 2 10 = h.L 2 10 ∧ ∀ j, j ≠ 6 → h'.L 53 j = h.L 53 j
theorem same_rf {h : AH} : same h h := ⟨frm_rf, rfl, fun _ _ => rfl⟩
theorem same_tr {h h1 h2 : AH} (a : same h h1) (b : same h1 h2) : same h h2 := ⟨frm_tr a.1 b.1, b.2.1.trans a.2.1, fun j q => (b.2.2 j q).trans (a.2.2 j q)⟩
def cfr (h h' : AH) : Prop := frm [2, 4, 5, 6] [2, 3] h h' ∧ h'.L 2 10 = h.L 2 10
def ofr (h h' : AH) : Prop := frm [54, 55] [53, 58] h h' ∧ ∀ j, j ≠ 6 → h'.L 53 j = h.L 53 j
theorem cfr_same {h h' : AH} (a : cfr h h') : same h h' := ⟨frm_up a.1 (by decide) (by decide), a.2, fun j _ => by rw [frm_L a.1 (by decide)]⟩
theorem ofr_same {h h' : AH} (a : ofr h h') : same h h' := ⟨frm_up a.1 (by decide) (by decide), by rw [frm_L a.1 (by decide)], a.2⟩
theorem cfr_rf {h : AH} : cfr h h := ⟨frm_rf, rfl⟩
theorem ofr_rf {h : AH} : ofr h h := ⟨frm_rf, fun _ _ => rfl⟩
theorem cfr_tr {h h1 h2 : AH} (a : cfr h h1) (b : cfr h1 h2) : cfr h h2 := ⟨frm_tr a.1 b.1, b.2.trans a.2⟩
theorem ofr_tr {h h1 h2 : AH} (a : ofr h h1) (b : ofr h1 h2) : ofr h h2 := ⟨frm_tr a.1 b.1, fun j q => (b.2 j q).trans (a.2 j q)⟩
theorem mfr_ofr {h h' : AH} (a : mfr h h') : ofr h h' := ⟨a.1, a.2.1⟩
theorem lfr_ofr {h h' : AH} (a : lfr h h') : ofr h h' := ⟨frm_up a.1 (by decide) (by decide), fun j _ => by rw [frm_L a.1 (by decide)]⟩
theorem MN_frm {h h' : AH} {s : NS} {SI SL : List Nat} (hf : frm SI SL h h') (hC : MN h s) (h1 : 54 ∉ SI) (h2 : 55 ∉ SI) (h3 : 58 ∉ SL) (h4 : 53 ∉ SL) : MN h' s := by
  unfold MN at *
  rw [frm_I hf h1, frm_I hf h2, frm_L hf h3, frm_L hf h4]
  exact hC
theorem ML_frm {h h' : AH} {SI SL : List Nat} {n : Nat} {en : Nat → Ent} (hf : frm SI SL h h') (hC : ML h n en) (h1 : 54 ∉ SI) : ML h' n en := by
  unfold ML at *
  rw [frm_I hf h1]
  exact hC
section PAIRS
variable {d : Nat} {h : AH} {s : NS} {n c : Nat} {en : Nat → Ent}
theorem mN_cfr {h' : AH} (a : cfr h h') (q : mN h s n en) : mN h' s n en := ⟨MN_frm a.1 q.1 (by decide) (by decide) (by decide) (by decide), ML_frm a.1 q.2 (by decide)⟩
theorem cN_ofr {h' : AH} (a : ofr h h') (q : cN h s n en) : cN h' s n en := ⟨CN_frm a.1 q.1 (by decide) (by decide) (by decide) (by decide), CL_frm a.1 q.2 (by decide) (by decide)⟩
theorem cb_come {u v : Nat} {x : Int32} (q : cb c s) : cb (c + 1) (comeS s u v x) := by
  obtain ⟨-, -, -, -, a5, a6, a7, a8⟩ := comeS_f s u v x
  obtain ⟨b1, b2, b3, b4⟩ := q
  exact ⟨by omega, by omega, by omega, by omega⟩
theorem cb_go {u v : Nat} (hs : s.sp ≤ 1560) (q : cb c s) : cb (c + 1) (goS s u v) := by
  obtain ⟨-, -, -, -, a5, a6, a7, a8⟩ := goS_f s u v hs
  obtain ⟨b1, b2, b3, b4⟩ := q
  exact ⟨by omega, by omega, by omega, by omega⟩
theorem cb_le {c' : Nat} (hc : c ≤ c') (q : cb c s) : cb c' s := by
  obtain ⟨b1, b2, b3, b4⟩ := q
  exact ⟨by omega, by omega, by omega, by omega⟩
theorem num_come {u v : Nat} {x : Int32} (q : num c s n en) (hu : u < 40) (hv : v < 40) (huv : u ≠ v) (hg : gb (s.f u) v = false) (hx : wbd x) : num (c + 1) (comeS s u v x) (lpush n en (u, v, true, x)).1 (lpush n en (u, v, true, x)).2 :=
  ⟨GS_come q.1 hu hv huv hg hx, by rw [(comeS_f s u v x).1]; exact lgOK_push q.2.1 hu hv huv hg hx, cb_come q.2.2⟩
theorem num_go {u v : Nat} (q : num c s n en) (hu : u < 40) (hv : v < 40) (huv : u ≠ v) (hg : gb (s.f u) v = true) : num (c + 1) (goS s u v) (lpush n en (u, v, false, s.w (pr u v))).1 (lpush n en (u, v, false, s.w (pr u v))).2 :=
  ⟨GS_go q.1 hu hv huv hg, by rw [(goS_f s u v q.1.2.2.2.1).1]; exact lgOK_push q.2.1 hu hv huv hg (q.1.2.2.2.2 _), cb_go q.1.2.2.2.1 q.2.2⟩
theorem num_bk : ∀ (k : Nat) {s : NS} {n c : Nat}, num c s n en → num (c + k) (bkS en k s n).1 (bkS en k s n).2.1 en ∧ (bkS en k s n).2.1 ≤ n
  | 0, s, n, c, q => ⟨q, Nat.le_refl _⟩
  | k + 1, s, 0, c, q => ⟨⟨q.1, q.2.1, cb_le (by omega) q.2.2⟩, Nat.le_refl _⟩
  | k + 1, s, n + 1, c, q => by
    obtain ⟨q1, ⟨⟨o1, o2, o3, o4, o5⟩, oT⟩, q3⟩ := q
    by_cases z : (en n).2.2.1 = true
    · have e : bkS en (k + 1) s (n + 1) = ((bkS en k (goS s (en n).1 (en n).2.1) n).1, (bkS en k (goS s (en n).1 (en n).2.1) n).2.1, (bkS en k (goS s (en n).1 (en n).2.1) n).2.2 + 1) := by
        show (let r := bkS en k (if (en n).2.2.1 = true then _ else _) n; (r.1, r.2.1, r.2.2 + 1)) = _
        rw [if_pos z]
      rw [z] at o4
      have := num_bk k (s := goS s (en n).1 (en n).2.1) (n := n) (c := c + 1) ⟨GS_go q1 o1 o2 o3 o4, by rw [(goS_f s _ _ q1.2.2.2.1).1]; exact oT, cb_go q1.2.2.2.1 q3⟩
      rw [e, show c + (k + 1) = c + 1 + k by omega]
      exact ⟨this.1, Nat.le_succ_of_le this.2⟩
    · have e : bkS en (k + 1) s (n + 1) = ((bkS en k (comeS s (en n).1 (en n).2.1 (en n).2.2.2) n).1, (bkS en k (comeS s (en n).1 (en n).2.1 (en n).2.2.2) n).2.1, (bkS en k (comeS s (en n).1 (en n).2.1 (en n).2.2.2) n).2.2 + 1) := by
        show (let r := bkS en k (if (en n).2.2.1 = true then _ else _) n; (r.1, r.2.1, r.2.2 + 1)) = _
        rw [if_neg z]
      have z : (en n).2.2.1 = false := ts_nt z
      rw [z] at o4
      have := num_bk k (s := comeS s (en n).1 (en n).2.1 (en n).2.2.2) (n := n) (c := c + 1) ⟨GS_come q1 o1 o2 o3 o4 o5, by rw [(comeS_f s _ _ _).1]; exact oT, cb_come q3⟩
      rw [e, show c + (k + 1) = c + 1 + k by omega]
      exact ⟨this.1, Nat.le_succ_of_le this.2⟩
theorem c_bringN {u v : Nat} {x : Int32} (hw : zWF h) (q : cN h s n en) (z : num c s n en) (hu : u < 40) (hv : v < 40) (huv : u ≠ v) (hg : gb (s.f u) v = false) : zK (d + 5) m_X3_bring [.ref 2, .int (nI u), .int (nI v), .int x] h (kV (fun h' => cN h' (comeS s u v x) (lpush n en (u, v, true, x)).1 (lpush n en (u, v, true, x)).2 ∧ cfr h h')) :=
  use_kV (c_bring hw q.1 q.2 z.1 hu hv huv hg) (fun h' hw' ⟨a1, a2, a3, a4⟩ => ⟨⟨a1, a2⟩, a3, a4⟩)
theorem c_dropN {u v : Nat} (hw : zWF h) (q : cN h s n en) (z : num c s n en) (hu : u < 40) (hv : v < 40) (huv : u ≠ v) (hg : gb (s.f u) v = true) : zK (d + 5) m_X3_drop [.ref 2, .int (nI u), .int (nI v)] h (kV (fun h' => cN h' (goS s u v) (lpush n en (u, v, false, s.w (pr u v))).1 (lpush n en (u, v, false, s.w (pr u v))).2 ∧ cfr h h')) :=
  use_kV (c_drop hw q.1 q.2 z.1 hu hv huv hg) (fun h' hw' ⟨a1, a2, a3, a4⟩ => ⟨⟨a1, a2⟩, a3, a4⟩)
theorem m_comesN {u v : Nat} {x : Int32} (hw : zWF h) (q : mN h s n en) (z : num c s n en) (hu : u < 40) (hv : v < 40) (huv : u ≠ v) (hg : gb (s.f u) v = false) : zK (d + 5) m_X11_comes [.ref 53, .int (nI u), .int (nI v), .int x] h (kV (fun h' => mN h' (comeS s u v x) (lpush n en (u, v, true, x)).1 (lpush n en (u, v, true, x)).2 ∧ ofr h h')) := by
  refine r_X11_comes_0 _ _ _ hw (use_kV (m_logs (c := true) hw q.2 hu hv) (fun h1 hw1 ⟨a1, a2⟩ => ?_))
  exact use_kV (m_come hw1 (MN_lfr a2 q.1) hu hv huv ((GS_E z.1 hu hv huv).1 hg) z.1.2.2.2.1) (fun h2 hw2 ⟨b1, b2⟩ => mk_kV hw2 ⟨⟨b1, ML_mfr b2 a1⟩, ofr_tr (lfr_ofr a2) (mfr_ofr b2)⟩)
theorem m_goesN {u v : Nat} (hw : zWF h) (q : mN h s n en) (z : num c s n en) (hu : u < 40) (hv : v < 40) (huv : u ≠ v) (hg : gb (s.f u) v = true) : zK (d + 5) m_X11_goes [.ref 53, .int (nI u), .int (nI v)] h (kV (fun h' => mN h' (goS s u v) (lpush n en (u, v, false, s.w (pr u v))).1 (lpush n en (u, v, false, s.w (pr u v))).2 ∧ ofr h h')) := by
  refine r_X11_goes_0 _ _ hw (use_pI (m_edge hu hv) ⟨vp_in_nI (pr_lt hu hv) (by decide), ?_⟩)
  rw [cl_n (pr_lt hu hv) (by decide), q.1.2.1 u v hu hv hg]
  refine use_kV (m_logs (c := false) hw q.2 hu hv) (fun h1 hw1 ⟨a1, a2⟩ => ?_)
  exact use_kV (m_go hw1 (MN_lfr a2 q.1) z.1.1 hu hv huv hg ((GS_E z.1 hu hv huv).2.1 hg) (GS_E z.1 hu hv huv).2.2 z.1.2.2.2.1) (fun h2 hw2 ⟨b1, b2⟩ => mk_kV hw2 ⟨⟨b1, ML_mfr b2 a1⟩, ofr_tr (lfr_ofr a2) (mfr_ofr b2)⟩)
theorem c_takeN (k : Nat) (hk : k ≤ 60) (hw : zWF h) (q : cN h s n en) (z : num c s n en) : zK (d + 5) m_X3_takeBack [.ref 2, .int (nI k)] h (kI (fun x h' => x = nI (bkS en k s n).2.2 ∧ cN h' (bkS en k s n).1 (bkS en k s n).2.1 en ∧ cfr h h')) :=
  use_kI (c_takeBack k hk hw q.1 q.2 z.1 z.2.1) (fun x h' hw' ⟨a1, a2, a3, _, _, a6, a7⟩ => ⟨a1, ⟨a2, a3⟩, a6, a7⟩)
theorem m_backN (k : Nat) (hk : k ≤ 60) (hw : zWF h) (q : mN h s n en) (z : num c s n en) : zQ none m_X11_back (d + 5) 15 [(0, .ref 53), (1, .int (nI k)), (2, .int (nI 0))] [] h (kI (fun x h' => x = nI (bkS en k s n).2.2 ∧ mN h' (bkS en k s n).1 (bkS en k s n).2.1 en ∧ ofr h h')) := by
  have key : ∀ m j, m + j = k → ∀ (g : AH) (s : NS) n c, zWF g → mN g s n en → num c s n en → ofr h g → zQ none m_X11_back (d + 4 + 1) 15 [(0, .ref 53), (1, .int (nI k)), (2, .int (nI j))] [] g (kI (fun x h' => x = nI ((bkS en m s n).2.2 + j) ∧ mN h' (bkS en m s n).1 (bkS en m s n).2.1 en ∧ ofr h h')) := by
    intro m
    induction m with
    | zero =>
      intro j hj g s n c hw q z hf
      rw [Nat.zero_add] at hj
      subst hj
      refine r_X11_back_15 _ _ hw ⟨fun _ => mk_kI hw ⟨?_, q, hf⟩, fun y => absurd ((nI_leE (by omega) (by omega)).mpr (Nat.le_refl _)) y⟩
      show nI j = nI (0 + j)
      rw [Nat.zero_add]
    | succ m ih =>
      intro j hj g s n c hw q z hf
      obtain ⟨l1, l2, l3⟩ := id q.2
      refine r_X11_back_15 _ _ hw ⟨fun y => absurd ((nI_leE (by omega) (by omega)).mp y) (by omega), fun _ => ⟨v6, ?_⟩⟩
      rw [k6, l1, nI_le0 (by omega)]
      refine ⟨fun y => ?_, fun y => ⟨v6, v6, fun h6 q6 => ?_⟩⟩
      · subst y
        refine mk_kI hw ⟨?_, q, hf⟩
        show nI j = nI (0 + j)
        rw [Nat.zero_add]
      · obtain ⟨n', rfl⟩ : ∃ n', n = n' + 1 := ⟨n - 1, by omega⟩
        rw [nI_subE (by omega), Nat.add_sub_cancel] at q6
        have hw6 : zWF h6 := wf_I q6 hw
        have lf : lfr g h6 := lfr_s q6 (by decide)
        have i6 : h6.I 54 6 = nI n' := by rw [q6]; rfl
        have q' : mN h6 s n' en := by
          refine ⟨MN_lfr lf q.1, i6, by omega, fun i hi => ?_⟩
          obtain ⟨b1, b2, b3⟩ := l3 i (by omega)
          rw [q6]
          exact ⟨by rw [AH.sI_I, va_up_ne _ _ (by omega)]; exact b1, by rw [AH.sI_I, va_up_ne _ _ (by omega)]; exact b2, by rw [AH.sI_I, va_up_ne _ _ (by omega)]; exact b3⟩
        have hE : mE (h6.I 54) n' (en n') := by
          obtain ⟨b1, b2, b3⟩ := l3 n' (by omega)
          rw [q6]
          exact ⟨by rw [AH.sI_I, va_up_ne _ _ (by omega)]; exact b1, by rw [AH.sI_I, va_up_ne _ _ (by omega)]; exact b2, by rw [AH.sI_I, va_up_ne _ _ (by omega)]; exact b3⟩
        obtain ⟨z1, ⟨⟨o1, o2, o3, o4, o5⟩, oT⟩, z3⟩ := id z
        have hp := pr_lt o1 o2
        have hd := pr_div o1 o2
        have e1 : h6.I 54 (7 + 3 * n') = nI (pr (en n').1 (en n').2.1) := hE.1
        have e2 : h6.I 54 (7 + 3 * n' + 1) = (en n').2.2.2 := by rw [← hE.2.1]; congr 1; omega
        have e3 : h6.I 54 (7 + 3 * n' + 2) = bI (en n').2.2.1 := by rw [← hE.2.2]; congr 1; omega
        rw [i6, nI_mulE, nI_add, nI_add, nI_add, nI_add, cl_n (show 7 + 3 * n' < 187 by omega) (by decide), cl_n (show 7 + 3 * n' + 1 < 187 by omega) (by decide), cl_n (show 7 + 3 * n' + 2 < 187 by omega) (by decide), e1, e2, e3, nI_remE (show pr (en n').1 (en n').2.1 < 2147483648 by omega) (show 0 < 40 by decide) (by decide), nI_divE (by omega) (by decide) (by decide), hd.1, hd.2]
        have hmn : min (en n').1 (en n').2.1 < 40 := by omega
        have hmx : max (en n').1 (en n').2.1 < 40 := by omega
        have hne : min (en n').1 (en n').2.1 ≠ max (en n').1 (en n').2.1 := by omega
        have hgm : gb (s.f (min (en n').1 (en n').2.1)) (max (en n').1 (en n').2.1) = (en n').2.2.1 := by
          rw [← o4]
          rcases Nat.lt_or_gt_of_ne o3 with y | y
          · rw [Nat.min_eq_left (by omega), Nat.max_eq_right (by omega)]
          · rw [Nat.min_eq_right (by omega), Nat.max_eq_left (by omega), z1.1.1]
        refine ⟨v6, vp_in_nI (by omega) (by decide), vp_in_nI (by omega) (by decide), vp_in_nI (by omega) (by decide), ?_⟩
        by_cases y : (en n').2.2.1 = true
        · rw [y] at o4 hgm ⊢
          refine ⟨fun _ => ⟨vp_in_nI (by omega) (by decide), fun _ => ?_, fun w => absurd w i1_ne0⟩, fun w => absurd w i1_ne0⟩
          refine use_kV (m_go hw6 q'.1 z1.1 hmn hmx hne hgm ((GS_E z1 o1 o2 o3).2.1 o4) (GS_E z1 o1 o2 o3).2.2 z1.2.2.2.1) (fun h9 hw9 ⟨b1, b2⟩ => ?_)
          rw [goS_mm s o3] at b1
          have := ih (j + 1) (by omega) h9 _ n' (c + 1) hw9 ⟨b1, ML_mfr b2 q'.2⟩ ⟨GS_go z1 o1 o2 o3 o4, by rw [(goS_f s _ _ z1.2.2.2.1).1]; exact oT, cb_go z1.2.2.2.1 z3⟩ (ofr_tr hf (ofr_tr (lfr_ofr lf) (mfr_ofr b2)))
          have e : bkS en (m + 1) s (n' + 1) = ((bkS en m (goS s (en n').1 (en n').2.1) n').1, (bkS en m (goS s (en n').1 (en n').2.1) n').2.1, (bkS en m (goS s (en n').1 (en n').2.1) n').2.2 + 1) := by
            show (let r := bkS en m (if (en n').2.2.1 = true then _ else _) n'; (r.1, r.2.1, r.2.2 + 1)) = _
            rw [if_pos y]
          rw [e]
          exact zq_mono this (fun r h' ⟨x, q1, q2, q3, q4⟩ => ⟨x, q1, q2, q3.trans (congrArg nI (by show _ = _ + 1 + j; omega)), q4⟩)
        · have e : bkS en (m + 1) s (n' + 1) = ((bkS en m (comeS s (en n').1 (en n').2.1 (en n').2.2.2) n').1, (bkS en m (comeS s (en n').1 (en n').2.1 (en n').2.2.2) n').2.1, (bkS en m (comeS s (en n').1 (en n').2.1 (en n').2.2.2) n').2.2 + 1) := by
            show (let r := bkS en m (if (en n').2.2.1 = true then _ else _) n'; (r.1, r.2.1, r.2.2 + 1)) = _
            rw [if_neg y]
          have y : (en n').2.2.1 = false := ts_nt y
          rw [y] at o4 hgm ⊢
          refine ⟨fun w => absurd rfl w, fun _ => ⟨vp_in_nI (by omega) (by decide), fun w => absurd rfl w, fun _ => ⟨vp_in_nI (by omega) (by decide), ?_⟩⟩⟩
          refine use_kV (m_come hw6 q'.1 hmn hmx hne ((GS_E z1 o1 o2 o3).1 o4) z1.2.2.2.1) (fun h9 hw9 ⟨b1, b2⟩ => ?_)
          rw [comeS_mm s _ o3] at b1
          have := ih (j + 1) (by omega) h9 _ n' (c + 1) hw9 ⟨b1, ML_mfr b2 q'.2⟩ ⟨GS_come z1 o1 o2 o3 o4 o5, by rw [(comeS_f s _ _ _).1]; exact oT, cb_come z3⟩ (ofr_tr hf (ofr_tr (lfr_ofr lf) (mfr_ofr b2)))
          rw [e]
          exact zq_mono this (fun r h' ⟨x, q1, q2, q3, q4⟩ => ⟨x, q1, q2, q3.trans (congrArg nI (by show _ = _ + 1 + j; omega)), q4⟩)
  exact key k 0 rfl h s n c hw q z ofr_rf
end PAIRS
