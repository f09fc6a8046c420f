/-! the net's numbers, one value for both sides -/
def NS : Type := (Nat → Int64) × (Nat → Int32) × Nat × Nat × Int64 × Nat × Nat × Nat × Nat
def ns (f : Nat → Int64) (w : Nat → Int32) (E sp : Nat) (hv : Int64) (mv cr rb ch : Nat) : NS := (f, w, E, sp, hv, mv, cr, rb, ch)
def NS.f (s : NS) : Nat → Int64 := s.1
def NS.w (s : NS) : Nat → Int32 := s.2.1
def NS.E (s : NS) : Nat := s.2.2.1
def NS.sp (s : NS) : Nat := s.2.2.2.1
def NS.hv (s : NS) : Int64 := s.2.2.2.2.1
def NS.mv (s : NS) : Nat := s.2.2.2.2.2.1
def NS.cr (s : NS) : Nat := s.2.2.2.2.2.2.1
def NS.rb (s : NS) : Nat := s.2.2.2.2.2.2.2.1
def NS.ch (s : NS) : Nat := s.2.2.2.2.2.2.2.2
def pr (u v : Nat) : Nat := min u v * 40 + max u v
theorem pr_lt {u v : Nat} (hu : u < 40) (hv : v < 40) : pr u v < 1600 := by unfold pr; omega
theorem pr_comm (u v : Nat) : pr u v = pr v u := by unfold pr; rw [Nat.min_comm, Nat.max_comm]
def flip (f : Nat → Int64) (u v : Nat) : Nat → Int64 := va_up (va_up f u (f u ^^^ one v)) v (f v ^^^ one u)
theorem flip_comm {f : Nat → Int64} {u v : Nat} (h : u ≠ v) : flip f u v = flip f v u := by
  funext a
  unfold flip
  by_cases h1 : a = u
  · subst h1; rw [va_up_ne _ _ h, va_up_self, va_up_self]
  · by_cases h2 : a = v
    · subst h2; rw [va_up_self, va_up_ne _ _ h1, va_up_self]
    · rw [va_up_ne _ _ h2, va_up_ne _ _ h1, va_up_ne _ _ h1, va_up_ne _ _ h2]
def bl (s : Nat) : Nat → Nat → Nat
  | 0, t => t
  | n + 1, t => if s ≤ t * t then t else bl s n (t + 1)
def bnd (s : Nat) : Nat := bl s 39 1
theorem bl_le (s : Nat) : ∀ n t, bl s n t ≤ t + n
  | 0, t => Nat.le_refl _
  | n + 1, t => by
    show (if _ then _ else _) ≤ _
    split
    · omega
    · have := bl_le s n (t + 1); omega
theorem bnd_le (s : Nat) : bnd s ≤ 40 := bl_le s 39 1
def lkP (f : Nat → Int64) (hv : Int64) (sp v : Nat) : Bool := if gb hv v = true then decide (2 * pc (f v) < bnd sp) else decide (3 * bnd sp ≤ 2 * pc (f v))
def look (s : NS) (v : Nat) : NS := if lkP s.f s.hv s.sp v = true then ns s.f s.w s.E s.sp (s.hv ^^^ one v) (s.mv + 1) (s.cr + pc (s.f v)) s.rb s.ch else s
def rebS (s : NS) (sp : Nat) : NS := ns s.f s.w s.E sp (mk (fun v => decide (bnd sp ≤ pc (s.f v))) 40) s.mv s.cr (s.rb + 1) s.ch
def comeS (s : NS) (a b : Nat) (x : Int32) : NS :=
  if s.E + 1 = s.sp then rebS (ns (flip s.f a b) (va_up s.w (pr a b) x) (s.E + 1) s.sp s.hv s.mv s.cr s.rb (s.ch + 1)) (s.sp * 2)
  else look (look (ns (flip s.f a b) (va_up s.w (pr a b) x) (s.E + 1) s.sp s.hv s.mv s.cr s.rb (s.ch + 1)) (min a b)) (max a b)
def goS (s : NS) (a b : Nat) : NS :=
  if s.E - 1 < s.sp / 4 then rebS (ns (flip s.f a b) s.w (s.E - 1) s.sp s.hv s.mv s.cr s.rb (s.ch + 1)) (max 1 (s.sp / 2 - 1))
  else look (look (ns (flip s.f a b) s.w (s.E - 1) s.sp s.hv s.mv s.cr s.rb (s.ch + 1)) (min a b)) (max a b)
/-- the class' rows hold these numbers; the reference's do -/
def CN (h : AH) (s : NS) : Prop := h.L 3 = s.f ∧ (∀ u v, u < 40 → v < 40 → gb (s.f u) v = true → h.I 4 (pr u v) = s.w (pr u v)) ∧ h.I 2 3 = nI s.E ∧ h.I 2 4 = nI s.sp ∧ h.L 2 5 = s.hv ∧ h.L 2 6 = lN s.mv ∧ h.L 2 7 = lN s.cr ∧ h.L 2 8 = lN s.rb ∧ h.L 2 9 = lN s.ch
/-- only these rows are others -/
def frm (SI SL : List Nat) (h h' : AH) : Prop := h'.n = h.n ∧ h'.u = h.u ∧ h'.sh = h.sh ∧ h'.P = h.P ∧ (∀ k, k ∉ SI → h'.I k = h.I k) ∧ ∀ k, k ∉ SL → h'.L k = h.L k
theorem frm_rf {SI SL : List Nat} {h : AH} : frm SI SL h h := ⟨rfl, rfl, rfl, rfl, fun _ _ => rfl, fun _ _ => rfl⟩
theorem frm_tr {SI SL : List Nat} {h h1 h2 : AH} (a : frm SI SL h h1) (b : frm SI SL h1 h2) : frm SI SL h h2 :=
  ⟨b.1.trans a.1, b.2.1.trans a.2.1, b.2.2.1.trans a.2.2.1, b.2.2.2.1.trans a.2.2.2.1, fun k hk => (b.2.2.2.2.1 k hk).trans (a.2.2.2.2.1 k hk), fun k hk => (b.2.2.2.2.2 k hk).trans (a.2.2.2.2.2 k hk)⟩
theorem frm_up {SI SL TI TL : List Nat} {h h1 : AH} (a : frm SI SL h h1) (hI : ∀ k ∈ SI, k ∈ TI) (hL : ∀ k ∈ SL, k ∈ TL) : frm TI TL h h1 :=
  ⟨a.1, a.2.1, a.2.2.1, a.2.2.2.1, fun k hk => a.2.2.2.2.1 k (fun q => hk (hI k q)), fun k hk => a.2.2.2.2.2 k (fun q => hk (hL k q))⟩
theorem frm_wI {SI SL : List Nat} {h h' : AH} {k : Nat} {f : Nat → Int32} (e : h' = h.wI k f) (hk : k ∈ SI) : frm SI SL h h' := by
  subst e
  exact ⟨rfl, rfl, rfl, rfl, fun a ha => va_up_ne _ _ (fun q => ha (q ▸ hk)), fun _ _ => rfl⟩
theorem frm_wL {SI SL : List Nat} {h h' : AH} {k : Nat} {f : Nat → Int64} (e : h' = h.wL k f) (hk : k ∈ SL) : frm SI SL h h' := by
  subst e
  exact ⟨rfl, rfl, rfl, rfl, fun _ _ => rfl, fun a ha => va_up_ne _ _ (fun q => ha (q ▸ hk))⟩
theorem frm_I {SI SL : List Nat} {h h' : AH} (a : frm SI SL h h') {k : Nat} (hk : k ∉ SI) : h'.I k = h.I k := a.2.2.2.2.1 k hk
theorem frm_L {SI SL : List Nat} {h h' : AH} (a : frm SI SL h h') {k : Nat} (hk : k ∉ SL) : h'.L k = h.L k := a.2.2.2.2.2 k hk
theorem frm_wf {SI SL : List Nat} {h h' : AH} (a : frm SI SL h h') (hw : zWF h) : zWF h' := by
  obtain ⟨e1, _, e3, e4, _⟩ := a
  exact ⟨by rw [e1]; exact hw.1, by rw [e3]; exact hw.2.1, by rw [e4]; exact hw.2.2⟩
section CNET
variable {d : Nat} {h : AH} {s : NS}
theorem c_pairOf {u v : Nat} (hu : u < 40) (hv : v < 40) : zK (d + 1) m_X10_pairOf [.int (nI u), .int (nI v)] h (pI h (fun x => x = nI (pr u v))) := by
  refine r_X10_pairOf_0 (nI u) (nI v) (mk_pI ?_)
  rw [zmmin_n (by omega) (by omega), zmmax_n (by omega) (by omega), nI_mulE, nI_add]
  rfl
theorem c_joins {u v : Nat} (hw : zWF h) (hu : u < 40) (hv : v < 40) : zK (d + 2) m_X3_joins [.ref 2, .int (nI u), .int (nI v)] h (pI h (fun x => x = bI (gb (h.L 3 u) v))) := by
  refine r_X3_joins_0 (nI u) (nI v) hw ⟨vi40 hu, ?_⟩
  rw [cl40 hu]
  exact use_pI (c_hasBit (by omega)) ⟨bI01 _, mk_pI rfl⟩
theorem c_isHeavy {v : Nat} (hw : zWF h) (hv : v < 40) : zK (d + 2) m_X3_isHeavy [.ref 2, .int (nI v)] h (pI h (fun x => x = bI (gb (h.L 2 5) v))) := by
  refine r_X3_isHeavy_0 (nI v) hw ?_
  exact use_pI (c_hasBit (by omega)) ⟨bI01 _, mk_pI rfl⟩
theorem c_bound {sp : Nat} (hw : zWF h) (hs : h.I 2 4 = nI sp) (hsp : sp ≤ 1600) : zK (d + 1) m_X3_bound [.ref 2] h (pI h (fun x => x = nI (bnd sp))) := by
  refine r_X3_bound_0 hw ?_
  have key : ∀ n t, n + t = 40 → zQ none m_X3_bound (d + 1) 2 [(0, .ref 2), (1, .int (nI t))] [] h (pI h (fun x => x = nI (bl sp n t))) := by
    intro n
    induction n with
    | zero =>
      intro t ht
      rw [Nat.zero_add] at ht
      subst ht
      exact r_X3_bound_2 _ hw ⟨fun _ => mk_pI rfl, fun q => absurd e40 q⟩
    | succ n ih =>
      intro t ht
      have htt : t * t < 1600 := Nat.lt_of_le_of_lt (Nat.mul_le_mul (show t ≤ 39 by omega) (show t ≤ 39 by omega)) (by decide)
      refine r_X3_bound_2 _ hw ⟨fun q => absurd q (n40 (by omega)), fun _ => ?_⟩
      rw [nI_mulE, hs, nI_add]
      refine ⟨fun q => ?_, fun q => mk_pI ?_⟩
      · have e : bl sp (n + 1) t = bl sp n (t + 1) := if_neg (fun z => by have := (nI_ltE (by omega) (by omega)).mp q; omega)
        rw [e]
        exact ih (t + 1) (by omega)
      · exact congrArg nI (if_pos (Nat.not_lt.mp (fun z => q ((nI_ltE (by omega) (by omega)).mpr z)))).symm
  exact key 39 1 rfl
theorem c_lookAt {v : Nat} (hw : zWF h) (hC : CN h s) (hv : v < 40) (hsp : s.sp ≤ 1600) : zK (d + 3) m_X3_lookAt [.ref 2, .int (nI v)] h (kV (fun h' => CN h' (look s v) ∧ frm [] [2] h h' ∧ h'.L 2 10 = h.L 2 10)) := by
  obtain ⟨e1, e2, e3, e4, e5, e6, e7, e8, e9⟩ := id hC
  have hb := bnd_le s.sp
  have hp := pc_le (s.f v)
  refine r_X3_lookAt_0 (nI v) hw (use_pI (c_degree (sh_3 hw) hv) (use_pI (c_bound hw e4 hsp) (use_pI (c_isHeavy hw hv) ?_)))
  rw [e1, e5, nI_mulE, nI_mulE, nI_ltE (by omega) (by omega), nI_leE (by omega) (by omega)]
  have no : lkP s.f s.hv s.sp v = false → kV (fun h' => CN h' (look s v) ∧ frm [] [2] h h' ∧ h'.L 2 10 = h.L 2 10) none h := fun z =>
    mk_kV hw ⟨by rw [look, if_neg (by rw [z]; decide)]; exact hC, frm_rf, rfl⟩
  have yes : lkP s.f s.hv s.sp v = true → ∀ h7, h7 = h.sL 2 5 (s.hv ^^^ ((1 : Int64) <<< ((nI v).toInt64 &&& 63))) → ∀ h8, h8 = h7.sL 2 6 (h7.L 2 6 + (1 : Int64)) → ∀ h9, h9 = h8.sL 2 7 (h8.L 2 7 + (nI (pc (s.f v))).toInt64) → kV (fun h' => CN h' (look s v) ∧ frm [] [2] h h' ∧ h'.L 2 10 = h.L 2 10) none h9 := by
    intro z h7 q7 h8 q8 h9 q9
    refine mk_kV (wf_L q9 (wf_L q8 (wf_L q7 hw))) ⟨?_, frm_tr (frm_wL q7 (by decide)) (frm_tr (frm_wL q8 (by decide)) (frm_wL q9 (by decide))), by subst q9 q8 q7; rfl⟩
    rw [look, if_pos z]
    have w6 : h7.L 2 6 = lN s.mv := by rw [q7]; exact e6
    have w7 : h8.L 2 7 = lN s.cr := by rw [q8, q7]; exact e7
    rw [w6, show (1 : Int64) = lN 1 from rfl, lN_add] at q8
    rw [w7, nI_l (by omega), lN_add] at q9
    subst q9 q8 q7
    exact ⟨e1, e2, e3, e4, rfl, rfl, rfl, e8, e9⟩
  refine ⟨fun q => ?_, fun q => ?_⟩
  · have q := bF q
    refine ⟨fun z => ⟨fun _ => no ?_, fun y => absurd nI_0 y⟩, fun z => ⟨fun y => absurd y i1_ne0, fun _ => yes ?_⟩⟩
    · unfold lkP; rw [if_neg (by rw [q]; decide), decide_eq_false_iff_not]; omega
    · unfold lkP; rw [if_neg (by rw [q]; decide), decide_eq_true_iff]; omega
  · have q := bT q
    refine ⟨fun z => ⟨fun _ => no ?_, fun y => absurd nI_0 y⟩, fun z => ⟨fun y => absurd y i1_ne0, fun _ => yes ?_⟩⟩
    · unfold lkP; rw [if_pos q, decide_eq_false_iff_not]; omega
    · unfold lkP; rw [if_pos q, decide_eq_true_iff]; omega
theorem c_rebase {sp : Nat} (hw : zWF h) (hC : CN h s) (hsp : sp ≤ 1600) : zK (d + 3) m_X3_rebase [.ref 2, .int (nI sp)] h (kV (fun h' => CN h' (rebS s sp) ∧ frm [2] [2] h h' ∧ h'.L 2 10 = h.L 2 10)) := by
  obtain ⟨e1, e2, e3, e4, e5, e6, e7, e8, e9⟩ := id hC
  have hb := bnd_le sp
  refine r_X3_rebase_0 (nI sp) hw (fun h1 q1 h2 q2 h3 q3 => ?_)
  have hw3 : zWF h3 := wf_L q3 (wf_L q2 (wf_I q1 hw))
  have w8 : h2.L 2 8 = lN s.rb := by rw [q2, q1]; exact e8
  rw [w8, show (1 : Int64) = lN 1 from rfl, lN_add] at q3
  refine use_pI (c_bound (sp := sp) hw3 (by subst q3 q2 q1; rfl) hsp) ?_
  have pass : ∀ i, i ≤ 40 → ∀ h', zWF h' → CN h' (ns s.f s.w s.E sp (mk (fun v => decide (bnd sp ≤ pc (s.f v))) i) s.mv s.cr (s.rb + 1) s.ch) → frm [2] [2] h h' → h'.L 2 10 = h.L 2 10 → zQ none m_X3_rebase (d + 2 + 1) 27 [(0, .ref 2), (2, .int (nI (bnd sp))), (3, .int (nI i))] [] h' (kV (fun h' => CN h' (rebS s sp) ∧ frm [2] [2] h h' ∧ h'.L 2 10 = h.L 2 10)) := by
    refine nat_down ?_ (fun i hi ih => ?_)
    · intro h' hw' hC' hf h10
      exact r_X3_rebase_27 _ _ hw' ⟨fun _ => mk_kV hw' ⟨hC', hf, h10⟩, fun q => absurd e40 q⟩
    · intro h' hw' hC' hf h10
      obtain ⟨a1, a2, a3, a4, a5, a6, a7, a8, a9⟩ := id hC'
      have hp := pc_le (s.f i)
      have a1' : h'.L 3 = s.f := a1
      refine r_X3_rebase_27 _ _ hw' ⟨fun q => absurd q (n40 hi), fun _ => use_pI (c_degree (sh_3 hw') hi) ?_⟩
      rw [a1', nI_ltE (by omega) (by omega), nI_add]
      refine ⟨fun q => ih h' hw' ?_ hf h10, fun q h4 q4 => ih h4 (wf_L q4 hw') ?_ (frm_tr hf (frm_wL q4 (by decide))) (by rw [q4]; exact h10)⟩
      · have e : mk (fun v => decide (bnd sp ≤ pc (s.f v))) (i + 1) = mk (fun v => decide (bnd sp ≤ pc (s.f v))) i := if_neg (by rw [decide_eq_true_iff]; omega)
        rw [e]
        exact hC'
      · have e : mk (fun v => decide (bnd sp ≤ pc (s.f v))) (i + 1) = mk (fun v => decide (bnd sp ≤ pc (s.f v))) i ||| one i := if_pos (by rw [decide_eq_true_iff]; omega)
        rw [a5] at q4
        rw [e]
        subst q4
        exact ⟨a1, a2, a3, a4, rfl, a6, a7, a8, a9⟩
  refine pass 0 (Nat.zero_le _) h3 hw3 ?_ (frm_tr (frm_wI q1 (by decide)) (frm_tr (frm_wL q2 (by decide)) (frm_wL q3 (by decide)))) (by subst q3 q2 q1; rfl)
  subst q3 q2 q1
  exact ⟨e1, e2, e3, rfl, rfl, e6, e7, rfl, e9⟩
end CNET
