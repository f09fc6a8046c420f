/-! what the numbers keep -/
def isE (f : Nat → Int64) (e : Nat) : Bool := decide (e / 40 < e % 40) && gb (f (e / 40)) (e % 40)
def wbd (x : Int32) : Prop := -2000000 ≤ x.toInt ∧ x.toInt ≤ 2000000
def GS (s : NS) : Prop := GF s.f ∧ s.E = fb_ct (isE s.f) 1600 ∧ 1 ≤ s.sp ∧ s.sp ≤ 1560 ∧ ∀ e, wbd (s.w e)
theorem flip_flip {f : Nat → Int64} {u v : Nat} (huv : u ≠ v) (hu : u < 64) (hv : v < 64) : flip (flip f u v) u v = f := by
  funext a
  apply gb_ext
  intro b hb
  rw [gb_flip huv hu hv, gb_flip huv hu hv, Bool.xor_assoc, Bool.xor_self, Bool.xor_false]
theorem GF_flip {f : Nat → Int64} {u v : Nat} (hf : GF f) (huv : u ≠ v) (hu : u < 40) (hv : v < 40) : GF (flip f u v) := by
  refine ⟨fun a b => ?_, fun a => ?_, fun a b h => ?_⟩
  · rw [gb_flip huv (by omega) (by omega), gb_flip huv (by omega) (by omega), hf.1 a b]
    congr 1
    exact decide_eq_decide.mpr ⟨fun h => h.elim (fun q => Or.inr ⟨q.2, q.1⟩) (fun q => Or.inl ⟨q.2, q.1⟩), fun h => h.elim (fun q => Or.inr ⟨q.2, q.1⟩) (fun q => Or.inl ⟨q.2, q.1⟩)⟩
  · rw [gb_flip huv (by omega) (by omega), hf.2.1, decide_eq_false]
    · rfl
    · rintro (⟨rfl, e⟩ | ⟨rfl, e⟩)
      · exact huv e
      · exact huv e.symm
  · rw [gb_flip huv (by omega) (by omega)] at h
    by_cases e : (a = u ∧ b = v) ∨ (a = v ∧ b = u)
    · rcases e with ⟨rfl, rfl⟩ | ⟨rfl, rfl⟩
      · exact ⟨hu, hv⟩
      · exact ⟨hv, hu⟩
    · rw [decide_eq_false e, Bool.xor_false] at h
      exact hf.2.2 a b h
theorem pr_div {u v : Nat} (hu : u < 40) (hv : v < 40) : pr u v / 40 = min u v ∧ pr u v % 40 = max u v := by unfold pr; omega
theorem isE_pr {f : Nat → Int64} (hs : ∀ a b, gb (f a) b = gb (f b) a) {u v : Nat} (hu : u < 40) (hv : v < 40) (huv : u ≠ v) : isE f (pr u v) = gb (f u) v := by
  unfold isE
  rw [(pr_div hu hv).1, (pr_div hu hv).2, decide_eq_true (by omega), Bool.true_and]
  rcases Nat.lt_or_gt_of_ne huv with h | h
  · rw [Nat.min_eq_left (by omega), Nat.max_eq_right (by omega)]
  · rw [Nat.min_eq_right (by omega), Nat.max_eq_left (by omega), hs]
theorem isE_flip {f : Nat → Int64} (hs : ∀ a b, gb (f a) b = gb (f b) a) {u v : Nat} (hu : u < 40) (hv : v < 40) (huv : u ≠ v) (e : Nat) (he : e < 1600) : isE (flip f u v) e = if e = pr u v then !gb (f u) v else isE f e := by
  by_cases h : e = pr u v
  · subst h
    rw [if_pos rfl]
    have hs' : ∀ a b, gb (flip f u v a) b = gb (flip f u v b) a := fun a b => by
      rw [gb_flip huv (by omega) (by omega), gb_flip huv (by omega) (by omega), hs a b]
      congr 1
      exact decide_eq_decide.mpr ⟨fun h => h.elim (fun q => Or.inr ⟨q.2, q.1⟩) (fun q => Or.inl ⟨q.2, q.1⟩), fun h => h.elim (fun q => Or.inr ⟨q.2, q.1⟩) (fun q => Or.inl ⟨q.2, q.1⟩)⟩
    rw [isE_pr hs' hu hv huv, gb_flip huv (by omega) (by omega), decide_eq_true (Or.inl ⟨rfl, rfl⟩), Bool.xor_true]
  · rw [if_neg h]
    unfold isE
    by_cases hlt : e / 40 < e % 40
    · rw [gb_flip huv (by omega) (by omega), decide_eq_false (p := e / 40 = u ∧ e % 40 = v ∨ e / 40 = v ∧ e % 40 = u), Bool.xor_false]
      rintro (⟨h1, h2⟩ | ⟨h1, h2⟩)
      · apply h; unfold pr; omega
      · apply h; unfold pr; omega
    · rw [decide_eq_false hlt, Bool.false_and, Bool.false_and]
theorem ec_flip {f : Nat → Int64} (hs : ∀ a b, gb (f a) b = gb (f b) a) {u v : Nat} (hu : u < 40) (hv : v < 40) (huv : u ≠ v) : fb_ct (isE (flip f u v)) 1600 + (if gb (f u) v = true then 1 else 0) = fb_ct (isE f) 1600 + (if gb (f u) v = true then 0 else 1) := by
  have h1 := fb_ct_upd (isE f) (!gb (f u) v) (pr_lt hu hv)
  rw [isE_pr hs hu hv huv] at h1
  have h2 : fb_ct (isE (flip f u v)) 1600 = fb_ct (fun k => if k = pr u v then !gb (f u) v else isE f k) 1600 := fb_ct_cong (fun k hk => isE_flip hs hu hv huv k hk)
  rw [h2, h1]
  cases gb (f u) v <;> rfl
theorem ec_le (f : Nat → Int64) : fb_ct (isE f) 1600 ≤ 780 := by
  have h1 : fb_ct (fun e => decide (e / 40 < e % 40)) 1600 = 780 := by decide +kernel
  rw [← h1]
  refine fb_ct_sub (fun k _ h => ?_)
  unfold isE at h
  rw [Bool.and_eq_true] at h
  exact h.1
theorem look_f (s : NS) (v : Nat) : (look s v).f = s.f ∧ (look s v).w = s.w ∧ (look s v).E = s.E ∧ (look s v).sp = s.sp ∧ (look s v).ch = s.ch ∧ (look s v).rb = s.rb ∧ (look s v).mv ≤ s.mv + 1 ∧ (look s v).cr ≤ s.cr + 64 := by
  have := pc_le (s.f v)
  unfold look
  split
  · exact ⟨rfl, rfl, rfl, rfl, rfl, rfl, Nat.le_refl _, by show s.cr + _ ≤ _; omega⟩
  · exact ⟨rfl, rfl, rfl, rfl, rfl, rfl, by omega, by omega⟩
theorem comeS_f (s : NS) (a b : Nat) (x : Int32) : (comeS s a b x).f = flip s.f a b ∧ (comeS s a b x).w = va_up s.w (pr a b) x ∧ (comeS s a b x).E = s.E + 1 ∧ ((comeS s a b x).sp = s.sp ∨ (comeS s a b x).sp = (s.E + 1) * 2) ∧ (comeS s a b x).ch = s.ch + 1 ∧ (comeS s a b x).rb ≤ s.rb + 1 ∧ (comeS s a b x).mv ≤ s.mv + 2 ∧ (comeS s a b x).cr ≤ s.cr + 128 := by
  unfold comeS
  split
  · exact ⟨rfl, rfl, rfl, Or.inr (by show s.sp * 2 = _; omega), rfl, Nat.le_refl _, Nat.le_add_right _ _, Nat.le_add_right _ _⟩
  · generalize hs1 : ns (flip s.f a b) (va_up s.w (pr a b) x) (s.E + 1) s.sp s.hv s.mv s.cr s.rb (s.ch + 1) = s1
    obtain ⟨a1, a2, a3, a4, a5, a6, a7, a8⟩ := look_f s1 (min a b)
    obtain ⟨b1, b2, b3, b4, b5, b6, b7, b8⟩ := look_f (look s1 (min a b)) (max a b)
    subst hs1
    refine ⟨b1.trans a1, b2.trans a2, b3.trans a3, Or.inl (b4.trans a4), b5.trans a5, by rw [b6, a6]; exact Nat.le_succ _, Nat.le_trans b7 (Nat.succ_le_succ a7), Nat.le_trans b8 (Nat.add_le_add_right a8 64)⟩
theorem goS_f (s : NS) (a b : Nat) (hsp : s.sp ≤ 1560) : (goS s a b).f = flip s.f a b ∧ (goS s a b).w = s.w ∧ (goS s a b).E = s.E - 1 ∧ ((goS s a b).sp = s.sp ∨ (1 ≤ (goS s a b).sp ∧ (goS s a b).sp ≤ 1560)) ∧ (goS s a b).ch = s.ch + 1 ∧ (goS s a b).rb ≤ s.rb + 1 ∧ (goS s a b).mv ≤ s.mv + 2 ∧ (goS s a b).cr ≤ s.cr + 128 := by
  unfold goS
  split
  · exact ⟨rfl, rfl, rfl, Or.inr ⟨by show 1 ≤ max 1 _; omega, by show max 1 _ ≤ 1560; omega⟩, rfl, Nat.le_refl _, Nat.le_add_right _ _, Nat.le_add_right _ _⟩
  · generalize hs1 : ns (flip s.f a b) s.w (s.E - 1) s.sp s.hv s.mv s.cr s.rb (s.ch + 1) = s1
    obtain ⟨a1, a2, a3, a4, a5, a6, a7, a8⟩ := look_f s1 (min a b)
    obtain ⟨b1, b2, b3, b4, b5, b6, b7, b8⟩ := look_f (look s1 (min a b)) (max a b)
    subst hs1
    refine ⟨b1.trans a1, b2.trans a2, b3.trans a3, Or.inl (b4.trans a4), b5.trans a5, by rw [b6, a6]; exact Nat.le_succ _, Nat.le_trans b7 (Nat.succ_le_succ a7), Nat.le_trans b8 (Nat.add_le_add_right a8 64)⟩
theorem GS_E {s : NS} (h : GS s) {u v : Nat} (hu : u < 40) (hv : v < 40) (huv : u ≠ v) : (gb (s.f u) v = false → s.E + 1 ≤ 780) ∧ (gb (s.f u) v = true → 1 ≤ s.E) ∧ s.E ≤ 780 := by
  have h1 := ec_flip h.1.1 hu hv huv
  have h2 := ec_le (flip s.f u v)
  have h3 := ec_le s.f
  rw [h.2.1]
  refine ⟨fun q => ?_, fun q => ?_, h3⟩
  · rw [q] at h1; simp at h1; omega
  · rw [q] at h1; simp at h1; omega
theorem GS_come {s : NS} (h : GS s) {u v : Nat} {x : Int32} (hu : u < 40) (hv : v < 40) (huv : u ≠ v) (hg : gb (s.f u) v = false) (hx : wbd x) : GS (comeS s u v x) := by
  obtain ⟨a1, a2, a3, a4, -⟩ := comeS_f s u v x
  have h1 := ec_flip h.1.1 hu hv huv
  rw [hg] at h1
  have hE := (GS_E h hu hv huv).1 hg
  have h3 := h.2.2.1
  have h4 := h.2.2.2.1
  refine ⟨by rw [a1]; exact GF_flip h.1 huv hu hv, by rw [a1, a3, h.2.1]; simp at h1; omega, by rcases a4 with q | q <;> omega, by rcases a4 with q | q <;> omega, fun e => ?_⟩
  rw [a2]
  by_cases he : e = pr u v
  · subst he; rw [va_up_self]; exact hx
  · rw [va_up_ne _ _ he]; exact h.2.2.2.2 e
theorem GS_go {s : NS} (h : GS s) {u v : Nat} (hu : u < 40) (hv : v < 40) (huv : u ≠ v) (hg : gb (s.f u) v = true) : GS (goS s u v) := by
  obtain ⟨a1, a2, a3, a4, -⟩ := goS_f s u v h.2.2.2.1
  have h1 := ec_flip h.1.1 hu hv huv
  rw [hg] at h1
  have hE := (GS_E h hu hv huv).2.1 hg
  have h3 := h.2.2.1
  have h4 := h.2.2.2.1
  refine ⟨by rw [a1]; exact GF_flip h.1 huv hu hv, by rw [a1, a3, h.2.1]; simp at h1; omega, by rcases a4 with q | q <;> omega, by rcases a4 with q | q <;> omega, fun e => ?_⟩
  rw [a2]
  exact h.2.2.2.2 e
theorem comeS_comm (s : NS) {u v : Nat} (x : Int32) (huv : u ≠ v) : comeS s u v x = comeS s v u x := by
  unfold comeS
  rw [flip_comm huv, pr_comm u v, Nat.min_comm u v, Nat.max_comm u v]
theorem goS_comm (s : NS) {u v : Nat} (huv : u ≠ v) : goS s u v = goS s v u := by
  unfold goS
  rw [flip_comm huv, Nat.min_comm u v, Nat.max_comm u v]
theorem comeS_mm (s : NS) {u v : Nat} (x : Int32) (huv : u ≠ v) : comeS s (min u v) (max u v) x = comeS s u v x := by
  rcases Nat.lt_or_gt_of_ne huv with h | h
  · rw [Nat.min_eq_left (by omega), Nat.max_eq_right (by omega)]
  · rw [Nat.min_eq_right (by omega), Nat.max_eq_left (by omega), comeS_comm s x (fun q => huv q.symm)]
theorem goS_mm (s : NS) {u v : Nat} (huv : u ≠ v) : goS s (min u v) (max u v) = goS s u v := by
  rcases Nat.lt_or_gt_of_ne huv with h | h
  · rw [Nat.min_eq_left (by omega), Nat.max_eq_right (by omega)]
  · rw [Nat.min_eq_right (by omega), Nat.max_eq_left (by omega), goS_comm s (fun q => huv q.symm)]
/-! what may go back fits the net -/
def lgOK (f : Nat → Int64) : Nat → (Nat → Ent) → Prop
  | 0, _ => True
  | n + 1, en => ((en n).1 < 40 ∧ (en n).2.1 < 40 ∧ (en n).1 ≠ (en n).2.1 ∧ gb (f (en n).1) (en n).2.1 = (en n).2.2.1 ∧ wbd (en n).2.2.2) ∧ lgOK (flip f (en n).1 (en n).2.1) n en
theorem lgOK_cong {f : Nat → Int64} : ∀ {n : Nat} {en en' : Nat → Ent}, (∀ i, i < n → en i = en' i) → lgOK f n en → lgOK f n en'
  | 0, _, _, _, _ => trivial
  | n + 1, en, en', h, hl => by
    obtain ⟨h1, h2⟩ := hl
    have e := h n (by omega)
    rw [e] at h1 h2
    exact ⟨h1, lgOK_cong (fun i hi => h i (by omega)) h2⟩
theorem lgOK_tail {f : Nat → Int64} : ∀ {n : Nat} {en : Nat → Ent}, lgOK f (n + 1) en → lgOK f n (fun i => en (i + 1))
  | 0, _, _ => trivial
  | n + 1, en, h => ⟨h.1, lgOK_tail (n := n) h.2⟩
theorem lgOK_push {f : Nat → Int64} {n : Nat} {en : Nat → Ent} {u v : Nat} {c : Bool} {x : Int32} (h : lgOK f n en) (hu : u < 40) (hv : v < 40) (huv : u ≠ v) (hg : gb (f u) v = !c) (hx : wbd x) : lgOK (flip f u v) (lpush n en (u, v, c, x)).1 (lpush n en (u, v, c, x)).2 := by
  have hgf : gb (flip f u v u) v = c := by rw [gb_flip huv (by omega) (by omega), decide_eq_true (Or.inl ⟨rfl, rfl⟩), hg]; simp
  have top : ∀ m (en' : Nat → Ent), lgOK f m en' → lgOK (flip f u v) (m + 1) (va_up en' m (u, v, c, x)) := by
    intro m en' hm
    refine ⟨by rw [va_up_self]; exact ⟨hu, hv, huv, hgf, hx⟩, ?_⟩
    rw [va_up_self]
    show lgOK (flip (flip f u v) u v) m _
    rw [flip_flip huv (by omega) (by omega)]
    exact lgOK_cong (fun i hi => (va_up_ne _ _ (by omega)).symm) hm
  unfold lpush
  split
  · next hn => subst hn; exact top 59 _ (lgOK_tail h)
  · exact top n en h
/-! BACK -/
def bkS (en : Nat → Ent) : Nat → NS → Nat → NS × Nat × Nat
  | 0, s, n => (s, n, 0)
  | _ + 1, s, 0 => (s, 0, 0)
  | k + 1, s, n + 1 =>
    let r := bkS en k (if (en n).2.2.1 = true then goS s (en n).1 (en n).2.1 else comeS s (en n).1 (en n).2.1 (en n).2.2.2) n
    (r.1, r.2.1, r.2.2 + 1)
section CBK
variable {d : Nat} {h : AH} {s : NS}
theorem CN_frm {h' : AH} {SI SL : List Nat} (hf : frm SI SL h h') (hC : CN h s) (h1 : 2 ∉ SI) (h2 : 4 ∉ SI) (h3 : 2 ∉ SL) (h4 : 3 ∉ SL) : CN h' s := by
  unfold CN at *
  rw [frm_I hf h1, frm_I hf h2, frm_L hf h3, frm_L hf h4]
  exact hC
theorem CL_frm {h' : AH} {SI SL : List Nat} {n : Nat} {en : Nat → Ent} (hf : frm SI SL h h') (hC : CL h n en) (h1 : 5 ∉ SI) (h2 : 6 ∉ SI) : CL h' n en := by
  unfold CL at *
  rw [frm_I hf h1, frm_I hf h2]
  exact hC
theorem c_bring {u v n : Nat} {x : Int32} {en : Nat → Ent} (hw : zWF h) (hC : CN h s) (hL : CL h n en) (hG : GS s) (hu : u < 40) (hv : v < 40) (huv : u ≠ v) (hg : gb (s.f u) v = false) : zK (d + 5) m_X3_bring [.ref 2, .int (nI u), .int (nI v), .int x] h (kV (fun h' => CN h' (comeS s u v x) ∧ CL h' (lpush n en (u, v, true, x)).1 (lpush n en (u, v, true, x)).2 ∧ frm [2, 4, 5, 6] [2, 3] h h' ∧ h'.L 2 10 = h.L 2 10)) := by
  refine r_X3_bring_0 _ _ _ hw (use_kV (c_keep (c := true) hw hL) (fun h1 hw1 ⟨a1, a2⟩ => ?_))
  refine use_kV (c_come hw1 (CN_frm a2 hC (by decide) (by decide) (by decide) (by decide)) hG.1 hu hv huv hg ((GS_E hG hu hv huv).1 hg) hG.2.2.2.1) (fun h2 hw2 ⟨b1, b2, b3⟩ => mk_kV hw2 ⟨b1, CL_frm b2 a1 (by decide) (by decide), frm_tr (frm_up a2 (by decide) (by decide)) (frm_up b2 (by decide) (by decide)), ?_⟩)
  rw [b3, frm_L a2 (by decide)]
theorem c_drop {u v n : Nat} {en : Nat → Ent} (hw : zWF h) (hC : CN h s) (hL : CL h n en) (hG : GS s) (hu : u < 40) (hv : v < 40) (huv : u ≠ v) (hg : gb (s.f u) v = true) : zK (d + 5) m_X3_drop [.ref 2, .int (nI u), .int (nI v)] h (kV (fun h' => CN h' (goS s u v) ∧ CL h' (lpush n en (u, v, false, s.w (pr u v))).1 (lpush n en (u, v, false, s.w (pr u v))).2 ∧ frm [2, 4, 5, 6] [2, 3] h h' ∧ h'.L 2 10 = h.L 2 10)) := by
  refine r_X3_drop_0 _ _ hw (use_pI (c_pairOf hu hv) ⟨vp_in_nI (pr_lt hu hv) (by decide), ?_⟩)
  rw [cl_n (pr_lt hu hv) (by decide), hC.2.1 u v hu hv hg]
  refine use_kV (c_keep (c := false) hw hL) (fun h1 hw1 ⟨a1, a2⟩ => ?_)
  refine use_kV (c_go hw1 (CN_frm a2 hC (by decide) (by decide) (by decide) (by decide)) hG.1 hu hv huv hg ((GS_E hG hu hv huv).2.1 hg) (GS_E hG hu hv huv).2.2 hG.2.2.2.1) (fun h2 hw2 ⟨b1, b2, b3⟩ => mk_kV hw2 ⟨b1, CL_frm b2 a1 (by decide) (by decide), frm_tr (frm_up a2 (by decide) (by decide)) (frm_up b2 (by decide) (by decide)), ?_⟩)
  rw [b3, frm_L a2 (by decide)]
theorem c_firstOf {i n : Nat} {en : Nat → Ent} (hw : zWF h) (hi : i < 60) (hE : cE (h.I 6) i (en i)) : zK (d + 1) m_X5_firstOf [.ref 5, .int (nI i)] h (pI h (fun x => x = nI (en i).1)) := by
  refine r_X5_firstOf_0 _ hw ?_
  rw [nI_mulE, nI_add, cl_n (show i * 4 + 1 < 240 by omega) (by decide)]
  exact ⟨vp_in_nI (by omega) (by decide), mk_pI (by rw [← hE.2.1]; congr 1; omega)⟩
theorem c_secondOf {i n : Nat} {en : Nat → Ent} (hw : zWF h) (hi : i < 60) (hE : cE (h.I 6) i (en i)) : zK (d + 1) m_X5_secondOf [.ref 5, .int (nI i)] h (pI h (fun x => x = nI (en i).2.1)) := by
  refine r_X5_secondOf_0 _ hw ?_
  rw [nI_mulE, nI_add, cl_n (show i * 4 + 2 < 240 by omega) (by decide)]
  exact ⟨vp_in_nI (by omega) (by decide), mk_pI (by rw [← hE.2.2.1]; congr 1; omega)⟩
theorem c_worthOf {i n : Nat} {en : Nat → Ent} (hw : zWF h) (hi : i < 60) (hE : cE (h.I 6) i (en i)) : zK (d + 1) m_X5_worthOf [.ref 5, .int (nI i)] h (pI h (fun x => x = (en i).2.2.2)) := by
  refine r_X5_worthOf_0 _ hw ?_
  rw [nI_mulE, nI_add, cl_n (show i * 4 + 3 < 240 by omega) (by decide)]
  exact ⟨vp_in_nI (by omega) (by decide), mk_pI (by rw [← hE.2.2.2]; congr 1; omega)⟩
theorem c_hadCome {i n : Nat} {en : Nat → Ent} (hw : zWF h) (hi : i < 60) (hE : cE (h.I 6) i (en i)) : zK (d + 1) m_X5_hadCome [.ref 5, .int (nI i)] h (pI h (fun x => x = bI (en i).2.2.1)) := by
  refine r_X5_hadCome_0 _ hw ?_
  rw [nI_mulE, cl_n (show i * 4 < 240 by omega) (by decide)]
  have e : h.I 6 (i * 4) = bI (en i).2.2.1 := by rw [← hE.1]; congr 1; omega
  rw [e]
  refine ⟨vp_in_nI (by omega) (by decide), fun q => mk_pI (bI_f ?_), fun q => mk_pI (bI_t ?_)⟩
  · cases hc : (en i).2.2.1 with
    | false => rfl
    | true => rw [hc] at q; exact absurd rfl q
  · cases hc : (en i).2.2.1 with
    | true => rfl
    | false => rw [hc] at q; exact absurd q (by decide)
theorem c_takeBack {en : Nat → Ent} (k : Nat) (hk : k ≤ 60) {n : Nat} (hw : zWF h) (hC : CN h s) (hL : CL h n en) (hG : GS s) (hO : lgOK s.f n en) : zK (d + 5) m_X3_takeBack [.ref 2, .int (nI k)] h (kI (fun x h' => x = nI (bkS en k s n).2.2 ∧ CN h' (bkS en k s n).1 ∧ CL h' (bkS en k s n).2.1 en ∧ GS (bkS en k s n).1 ∧ lgOK (bkS en k s n).1.f (bkS en k s n).2.1 en ∧ frm [2, 4, 5, 6] [2, 3] h h' ∧ h'.L 2 10 = h.L 2 10)) := by
  refine r_X3_takeBack_0 _ hw ?_
  have key : ∀ m j, m + j = k → ∀ (g : AH) (s : NS) n, zWF g → CN g s → CL g n en → GS s → lgOK s.f n en → frm [2, 4, 5, 6] [2, 3] h g → g.L 2 10 = h.L 2 10 → zQ none m_X3_takeBack (d + 4 + 1) 2 [(0, .ref 2), (1, .int (nI k)), (2, .int (nI j))] [] g (kI (fun x h' => x = nI ((bkS en m s n).2.2 + j) ∧ CN h' (bkS en m s n).1 ∧ CL h' (bkS en m s n).2.1 en ∧ GS (bkS en m s n).1 ∧ lgOK (bkS en m s n).1.f (bkS en m s n).2.1 en ∧ frm [2, 4, 5, 6] [2, 3] h h' ∧ h'.L 2 10 = h.L 2 10)) := by
    intro m
    induction m with
    | zero =>
      intro j hj g s n hw hC hL hG hO hf hp
      rw [Nat.zero_add] at hj
      subst hj
      refine r_X3_takeBack_2 _ _ hw ⟨fun _ => mk_kI hw ⟨?_, hC, hL, hG, hO, hf, hp⟩, fun q => absurd (nI_le (Nat.le_refl _) (by omega)) q⟩
      show nI j = nI (0 + j)
      rw [Nat.zero_add]
    | succ m ih =>
      intro j hj g s n hw hC hL hG hO hf hp
      obtain ⟨l1, l2, l3⟩ := id hL
      refine r_X3_takeBack_2 _ _ hw ⟨fun q => absurd q (nI_ge (by omega) (by omega)), fun _ => ⟨fun q => ?_, fun q h3 q3 => ?_⟩⟩
      · rw [l1] at q
        have hn := (nI_le0 (by omega)).mp q
        subst hn
        refine mk_kI hw ⟨?_, hC, hL, hG, hO, hf, hp⟩
        show nI j = nI (0 + j)
        rw [Nat.zero_add]
      · rw [l1] at q q3
        have hn : n ≠ 0 := fun z => q ((nI_le0 (by omega)).mpr z)
        obtain ⟨n', rfl⟩ : ∃ n', n = n' + 1 := ⟨n - 1, by omega⟩
        rw [nI_subE (by omega), Nat.add_sub_cancel] at q3
        have hw3 : zWF h3 := wf_I q3 hw
        have f3 : frm [5] [] g h3 := frm_wI q3 (by decide)
        have c3 : CN h3 s := CN_frm f3 hC (by decide) (by decide) (by decide) (by decide)
        have i5 : h3.I 5 1 = nI n' := by rw [q3]; rfl
        have i6 : h3.I 6 = g.I 6 := frm_I f3 (by decide)
        have hE : cE (h3.I 6) n' (en n') := by rw [i6]; exact l3 n' (by omega)
        have l3' : CL h3 n' en := ⟨i5, by omega, fun i hi => by rw [i6]; exact l3 i (by omega)⟩
        obtain ⟨⟨o1, o2, o3, o4, o5⟩, oT⟩ := hO
        rw [i5, nI_add]
        refine use_pI (c_firstOf (n := 0) hw3 (by omega) hE) (use_pI (c_secondOf (n := 0) hw3 (by omega) hE) (use_pI (c_hadCome (n := 0) hw3 (by omega) hE) ⟨fun z => ?_, fun z => ?_⟩))
        · have z := bF z
          rw [z] at o4
          refine use_pI (c_worthOf (n := 0) hw3 (by omega) hE) (use_kV (c_come hw3 c3 hG.1 o1 o2 o3 o4 ((GS_E hG o1 o2 o3).1 o4) hG.2.2.2.1) (fun h9 hw9 ⟨b1, b2, b3⟩ => ?_))
          have := ih (j + 1) (by omega) h9 _ n' hw9 b1 (CL_frm b2 l3' (by decide) (by decide)) (GS_come hG o1 o2 o3 o4 o5) (by rw [(comeS_f s _ _ _).1]; exact oT) (frm_tr hf (frm_tr (frm_up f3 (by decide) (by decide)) (frm_up b2 (by decide) (by decide)))) (by rw [b3, frm_L f3 (by decide), hp])
          have e : bkS en (m + 1) s (n' + 1) = ((bkS en m (comeS s (en n').1 (en n').2.1 (en n').2.2.2) n').1, (bkS en m (comeS s (en n').1 (en n').2.1 (en n').2.2.2) n').2.1, (bkS en m (comeS s (en n').1 (en n').2.1 (en n').2.2.2) n').2.2 + 1) := by
            show (let r := bkS en m (if (en n').2.2.1 = true then _ else _) n'; (r.1, r.2.1, r.2.2 + 1)) = _
            rw [if_neg (by rw [z]; decide)]
          rw [e]
          exact zq_mono this (fun r h' ⟨x, q1, q2, q3, q4⟩ => ⟨x, q1, q2, q3.trans (congrArg nI (by show _ = _ + 1 + j; omega)), q4⟩)
        · have z := bT z
          rw [z] at o4
          refine use_kV (c_go hw3 c3 hG.1 o1 o2 o3 o4 ((GS_E hG o1 o2 o3).2.1 o4) (GS_E hG o1 o2 o3).2.2 hG.2.2.2.1) (fun h9 hw9 ⟨b1, b2, b3⟩ => ?_)
          have := ih (j + 1) (by omega) h9 _ n' hw9 b1 (CL_frm b2 l3' (by decide) (by decide)) (GS_go hG o1 o2 o3 o4) (by rw [(goS_f s _ _ hG.2.2.2.1).1]; exact oT) (frm_tr hf (frm_tr (frm_up f3 (by decide) (by decide)) (frm_up b2 (by decide) (by decide)))) (by rw [b3, frm_L f3 (by decide), hp])
          have e : bkS en (m + 1) s (n' + 1) = ((bkS en m (goS s (en n').1 (en n').2.1) n').1, (bkS en m (goS s (en n').1 (en n').2.1) n').2.1, (bkS en m (goS s (en n').1 (en n').2.1) n').2.2 + 1) := by
            show (let r := bkS en m (if (en n').2.2.1 = true then _ else _) n'; (r.1, r.2.1, r.2.2 + 1)) = _
            rw [if_pos z]
          rw [e]
          exact zq_mono this (fun r h' ⟨x, q1, q2, q3, q4⟩ => ⟨x, q1, q2, q3.trans (congrArg nI (by show _ = _ + 1 + j; omega)), q4⟩)
  exact key k 0 rfl h s n hw hC hL hG hO frm_rf rfl
end CBK
