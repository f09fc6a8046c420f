section PICK4
variable {len : Nat} {T : Nat → Nat} {f : Nat → Int64} {hv : Int64}
def gg (len : Nat) (g : SS → RS) : Prop := ∀ p, p ≤ len → gd len (g (p, none)).1 ∧ ((g (p, none)).1.2 = none → p ≤ (g (p, none)).1.1 ∧ (g (p, none)).1.1 ≤ len)
def mR (f : Nat → Int64) (hv : Int64) (len : Nat) (T : Nat → Nat) (d : Nat) (M : Mth) (k : Int32) (g : SS → RS) : Prop := ∀ (h : AH) (p : Nat), zWF h → h.L 58 = f → h.L 53 6 = hv → MT h len T p none → zK d M [.ref 53, .int k] h (kL (fun x h' => ((g (p, none)).1.2 = none → x = (g (p, none)).2) ∧ mO h' len T (g (p, none)).1 ∧ pkf h h'))
theorem gg_loop {g : SS → RS} {t : Nat} {op : Int64 → Int64 → Int64} (ht : t ≤ 160) (hg : gg len g) : ∀ n (r : RS), gd len r.1 → (r.1.2 = none → r.1.1 ≤ len) → gd len (sLoop len T g t op n r).1 ∧ ((sLoop len T g t op n r).1.2 = none → (r.1.2 = none → r.1.1 ≤ (sLoop len T g t op n r).1.1) ∧ (sLoop len T g t op n r).1.1 ≤ len)
  | 0, r, h1, h2 => ⟨h1, fun e => ⟨fun _ => Nat.le_refl _, h2 e⟩⟩
  | n + 1, r, h1, h2 => by
    cases e : tk len T r.1.1 t with
    | false => rw [sLoop_f e]; exact ⟨h1, fun e => ⟨fun _ => Nat.le_refl _, h2 e⟩⟩
    | true =>
      have hlt := tk_lt ht e
      have en : r.1 = (r.1.1, none) := by
        rcases gd_e h1 with q | ⟨f, q⟩
        · exact q
        · rw [q] at hlt; exact absurd hlt (Nat.lt_irrefl _)
      have en2 : r.1.2 = none := by rw [en]
      rw [sLoop_t e, en2]
      have hq := hg (r.1.1 + 1) hlt
      have := gg_loop (op := op) ht hg n ((g (r.1.1 + 1, none)).1, op r.2 (g (r.1.1 + 1, none)).2) hq.1 (fun k => (hq.2 k).2)
      refine ⟨this.1, fun k => ⟨fun _ => ?_, (this.2 k).2⟩⟩
      cases e3 : (g (r.1.1 + 1, none)).1.2 with
      | none =>
        have a1 := (this.2 k).1 e3
        have a2 := (hq.2 e3).1
        exact Nat.le_trans (Nat.le_succ _) (Nat.le_trans a2 a1)
      | some f3 =>
        have a1 : (g (r.1.1 + 1, none)).1 = (len, some f3) := by
          rcases gd_e hq.1 with q | ⟨f', q⟩
          · rw [q] at e3; cases e3
          · rw [q] at e3; cases e3; exact q
        rw [sLoop_f (by show tk len T (g (r.1.1 + 1, none)).1.1 t = false; rw [a1]; exact tk_end ht)] at k
        rw [show ((g (r.1.1 + 1, none)).1, op r.2 (g (r.1.1 + 1, none)).2).1.2 = some f3 from e3] at k
        cases k
theorem gg_seq {g : SS → RS} {t : Nat} {op : Int64 → Int64 → Int64} (ht : t ≤ 160) (hg : gg len g) : gg len (sSeq len T g t op) := by
  intro p hp
  have hq := hg p hp
  have := gg_loop (T := T) (op := op) ht hg 160 (g (p, none)) hq.1 (fun k => (hq.2 k).2)
  refine ⟨this.1, fun k => ⟨?_, (this.2 k).2⟩⟩
  cases e3 : (g (p, none)).1.2 with
  | none => exact Nat.le_trans (hq.2 e3).1 ((this.2 k).1 e3)
  | some f3 =>
    have a1 : (g (p, none)).1 = (len, some f3) := by
      rcases gd_e hq.1 with q | ⟨f', q⟩
      · rw [q] at e3; cases e3
      · rw [q] at e3; cases e3; exact q
    unfold sSeq at k
    rw [sLoop_f (by rw [a1]; exact tk_end ht), e3] at k
    cases k
theorem gg_test (hlen : len ≤ 160) : gg len (sTest f hv len T) := by
  intro p hp
  unfold sTest
  split
  · rename_i h1
    rw [Bool.and_eq_true, decide_eq_true_iff] at h1
    split
    · rename_i h2
      rw [Bool.and_eq_true, decide_eq_true_iff] at h2
      have h2' : p + 1 + 1 ≤ len := h2.1
      cases e : nok len T 3 999 (p + 1 + 1) with
      | true =>
        have hr := rd_le (len := len) (T := T) 3 (p + 1 + 1) 0 h2'
        show gd len (sNum len T 3 999 (p + 1 + 1, none)) ∧ ((sNum len T 3 999 (p + 1 + 1, none)).2 = none → p ≤ (sNum len T 3 999 (p + 1 + 1, none)).1 ∧ (sNum len T 3 999 (p + 1 + 1, none)).1 ≤ len)
        rw [sNum_t e]
        refine ⟨gd_n _ _, fun _ => ⟨?_, hr.1⟩⟩
        show p ≤ (rd len T 3 (p + 1 + 1) 0).1
        omega
      | false =>
        show gd len (sNum len T 3 999 (p + 1 + 1, none)) ∧ ((sNum len T 3 999 (p + 1 + 1, none)).2 = none → p ≤ (sNum len T 3 999 (p + 1 + 1, none)).1 ∧ (sNum len T 3 999 (p + 1 + 1, none)).1 ≤ len)
        rw [sNum_f e]
        exact ⟨gd_d _ _, fun k => by cases k⟩
    · exact ⟨gd_d _ _, fun k => by cases k⟩
  · exact ⟨gd_d _ _, fun k => by cases k⟩
theorem gg_si (hlen : len ≤ 160) : ∀ D, gg len (sSi f hv len T D)
  | 0 => by
    intro p hp
    cases hk : (decide (p < len) && isC (T p)) with
    | true =>
      have e : sSi f hv len T 0 (p, none) = (sFail len p (p, none), 0) := if_pos hk
      rw [e]
      exact ⟨gd_d _ _, fun k => by cases k⟩
    | false => rw [sSi_no (s := (p, none)) hk]; exact gg_test hlen p hp
  | D + 1 => by
    intro p hp
    cases hk : (decide (p < len) && isC (T p)) with
    | false => rw [sSi_no (s := (p, none)) hk]; exact gg_test hlen p hp
    | true =>
      have e : sSi f hv len T (D + 1) (p, none) = if T p = 40 then (sNeed len T 41 (sSeq len T (sSeq len T (sSi f hv len T D) 38 iand) 124 ior (p + 1, none)).1, (sSeq len T (sSeq len T (sSi f hv len T D) 38 iand) 124 ior (p + 1, none)).2) else ((sSi f hv len T D (p + 1, none)).1, trC f (T p) (sSi f hv len T D (p + 1, none)).2) := if_pos hk
      rw [e]
      rw [Bool.and_eq_true, decide_eq_true_iff] at hk
      have h1 : p + 1 ≤ len := hk.1
      have I1 := gg_si hlen D
      have I2 : gg len (sSeq len T (sSeq len T (sSi f hv len T D) 38 iand) 124 ior) := gg_seq (by decide) (gg_seq (by decide) I1)
      split
      · have q := I2 (p + 1) h1
        generalize sSeq len T (sSeq len T (sSi f hv len T D) 38 iand) 124 ior (p + 1, none) = r at q ⊢
        refine ⟨gd_need (by decide) q.1, fun k => ?_⟩
        obtain ⟨k1, k2⟩ := sNeed_no (by decide) q.1 k
        have q2 := q.2 k1
        have en : r.1 = (r.1.1, none) := Prod.ext rfl k1
        show p ≤ (sNeed len T 41 r.1).1 ∧ (sNeed len T 41 r.1).1 ≤ len
        rw [en, sNeed_t k2]
        have := tk_lt (show 41 ≤ 160 by decide) k2
        exact ⟨by show p ≤ r.1.1 + 1; omega, this⟩
      · have q := I1 (p + 1) h1
        exact ⟨q.1, fun k => ⟨Nat.le_trans (Nat.le_succ _) (q.2 k).1, (q.2 k).2⟩⟩
theorem m_both {d : Nat} {k : Int32} {g : SS → RS} (hgg : gg len g) (H : mR f hv len T (d + 2) m_X11_factor k g) : mR f hv len T (d + 3) m_X11_both k (sSeq len T g 38 iand) := by
  intro h p hw e58 e6 hC
  have hpl := hC.2.2.2.2.1
  have hlen := hC.2.1
  have hq := hgg p hpl
  refine r_X11_both_0 _ hw (use_kL (H h p hw e58 e6 hC) (fun x h1 hw1 ⟨a1, a2, a3⟩ => ?_))
  have key : ∀ n i, n + i = 160 → ∀ (h1 : AH) (r : RS) (x : Int64), zWF h1 → gd len r.1 → (r.1.2 = none → i ≤ r.1.1 ∧ r.1.1 ≤ len ∧ x = r.2) → mO h1 len T r.1 → pkf h h1 → zQ none m_X11_both (d + 2 + 1) 6 [(0, .ref 53), (1, .int k), (2, .long x)] [] h1 (kL (fun x h' => ((sLoop len T g 38 iand n r).1.2 = none → x = (sLoop len T g 38 iand n r).2) ∧ mO h' len T (sLoop len T g 38 iand n r).1 ∧ pkf h h')) := by
    intro n
    induction n with
    | zero =>
      intro i hi h1 r x hw1 hgd hr c1 f1
      rw [Nat.zero_add] at hi
      rcases gd_e hgd with q | ⟨f0, q⟩
      · have q2 : r.1.2 = none := by rw [q]
        obtain ⟨r1, r2, r3⟩ := hr q2
        have cm := c1.1 q2
        have t : tk len T r.1.1 38 = false := by
          cases t : tk len T r.1.1 38 with
          | false => rfl
          | true => have := tk_lt (by decide) t; omega
        refine r_X11_both_6 _ _ hw1 ?_
        rw [cm.2.2.2.2.2.1]
        refine ⟨fun z => absurd z (by decide), fun _ => use_pI (m_here hw1 cm) ⟨fun _ => mk_kL hw1 ⟨fun _ => r3, c1, f1⟩, fun z => absurd ((decide_eq_true z : tk len T r.1.1 38 = true).symm.trans t) (by decide)⟩⟩
      · have q2 : r.1.2 = some f0 := by rw [q]
        obtain ⟨p', cm⟩ := c1.2 f0 q2
        refine r_X11_both_6 _ _ hw1 ?_
        rw [cm.2.2.2.2.2.1]
        exact ⟨fun _ => mk_kL hw1 ⟨(fun y => by rw [show (sLoop len T g 38 iand 0 r).1.2 = some f0 from q2] at y; cases y), c1, f1⟩, fun z => absurd (fi_n (cm.2.2.2.2.2.2 f0 rfl)).2 z⟩
    | succ n ih =>
      intro i hi h1 r x hw1 hgd hr c1 f1
      rcases gd_e hgd with q | ⟨f0, q⟩
      · have q2 : r.1.2 = none := by rw [q]
        obtain ⟨r1, r2, r3⟩ := hr q2
        have cm := c1.1 q2
        refine r_X11_both_6 _ _ hw1 ?_
        rw [cm.2.2.2.2.2.1]
        refine ⟨fun z => absurd z (by decide), fun _ => use_pI (m_here hw1 cm) ⟨fun z => ?_, fun z h4 q4 => ?_⟩⟩
        · have t : tk len T r.1.1 38 = false := decide_eq_false z
          rw [sLoop_f t]
          exact mk_kL hw1 ⟨fun _ => r3, c1, f1⟩
        · have t : tk len T r.1.1 38 = true := decide_eq_true z
          have hlt := tk_lt (by decide) t
          have hw4 := wf_I q4 hw1
          have c4 := MT_step cm hlt q4
          have f4 := pkf_tr f1 (pkf_n (nfr_s q4 (Or.inl rfl)))
          have hq4 := hgg (r.1.1 + 1) hlt
          rw [sLoop_t t, q2]
          refine use_kL (H h4 _ hw4 (by rw [pkf_L f4]; exact e58) (by rw [pkf_L f4]; exact e6) c4) (fun y h5 hw5 ⟨d1, d2, d3⟩ => ?_)
          refine ih (i + 1) (by omega) h5 ((g (r.1.1 + 1, none)).1, iand r.2 (g (r.1.1 + 1, none)).2) _ hw5 hq4.1 (fun k => ?_) d2 (pkf_tr f4 d3)
          have := hq4.2 k
          exact ⟨by show i + 1 ≤ (g (r.1.1 + 1, none)).1.1; omega, this.2, by rw [r3, d1 k]; rfl⟩
      · have q2 : r.1.2 = some f0 := by rw [q]
        have t : tk len T r.1.1 38 = false := by rw [q]; exact tk_end (by decide)
        obtain ⟨p', cm⟩ := c1.2 f0 q2
        rw [sLoop_f t]
        refine r_X11_both_6 _ _ hw1 ?_
        rw [cm.2.2.2.2.2.1]
        exact ⟨fun _ => mk_kL hw1 ⟨(fun y => by rw [q2] at y; cases y), c1, f1⟩, fun z => absurd (fi_n (cm.2.2.2.2.2.2 f0 rfl)).2 z⟩
  exact key 160 0 rfl h1 (g (p, none)) x hw1 hq.1 (fun k => ⟨Nat.zero_le _, (hq.2 k).2, a1 k⟩) a2 a3
theorem m_either {d : Nat} {k : Int32} {g : SS → RS} (hgg : gg len g) (H : mR f hv len T (d + 2) m_X11_both k g) : mR f hv len T (d + 3) m_X11_either k (sSeq len T g 124 ior) := by
  intro h p hw e58 e6 hC
  have hpl := hC.2.2.2.2.1
  have hlen := hC.2.1
  have hq := hgg p hpl
  refine r_X11_either_0 _ hw (use_kL (H h p hw e58 e6 hC) (fun x h1 hw1 ⟨a1, a2, a3⟩ => ?_))
  have key : ∀ n i, n + i = 160 → ∀ (h1 : AH) (r : RS) (x : Int64), zWF h1 → gd len r.1 → (r.1.2 = none → i ≤ r.1.1 ∧ r.1.1 ≤ len ∧ x = r.2) → mO h1 len T r.1 → pkf h h1 → zQ none m_X11_either (d + 2 + 1) 6 [(0, .ref 53), (1, .int k), (2, .long x)] [] h1 (kL (fun x h' => ((sLoop len T g 124 ior n r).1.2 = none → x = (sLoop len T g 124 ior n r).2) ∧ mO h' len T (sLoop len T g 124 ior n r).1 ∧ pkf h h')) := by
    intro n
    induction n with
    | zero =>
      intro i hi h1 r x hw1 hgd hr c1 f1
      rw [Nat.zero_add] at hi
      rcases gd_e hgd with q | ⟨f0, q⟩
      · have q2 : r.1.2 = none := by rw [q]
        obtain ⟨r1, r2, r3⟩ := hr q2
        have cm := c1.1 q2
        have t : tk len T r.1.1 124 = false := by
          cases t : tk len T r.1.1 124 with
          | false => rfl
          | true => have := tk_lt (by decide) t; omega
        refine r_X11_either_6 _ _ hw1 ?_
        rw [cm.2.2.2.2.2.1]
        refine ⟨fun z => absurd z (by decide), fun _ => use_pI (m_here hw1 cm) ⟨fun _ => mk_kL hw1 ⟨fun _ => r3, c1, f1⟩, fun z => absurd ((decide_eq_true z : tk len T r.1.1 124 = true).symm.trans t) (by decide)⟩⟩
      · have q2 : r.1.2 = some f0 := by rw [q]
        obtain ⟨p', cm⟩ := c1.2 f0 q2
        refine r_X11_either_6 _ _ hw1 ?_
        rw [cm.2.2.2.2.2.1]
        exact ⟨fun _ => mk_kL hw1 ⟨(fun y => by rw [show (sLoop len T g 124 ior 0 r).1.2 = some f0 from q2] at y; cases y), c1, f1⟩, fun z => absurd (fi_n (cm.2.2.2.2.2.2 f0 rfl)).2 z⟩
    | succ n ih =>
      intro i hi h1 r x hw1 hgd hr c1 f1
      rcases gd_e hgd with q | ⟨f0, q⟩
      · have q2 : r.1.2 = none := by rw [q]
        obtain ⟨r1, r2, r3⟩ := hr q2
        have cm := c1.1 q2
        refine r_X11_either_6 _ _ hw1 ?_
        rw [cm.2.2.2.2.2.1]
        refine ⟨fun z => absurd z (by decide), fun _ => use_pI (m_here hw1 cm) ⟨fun z => ?_, fun z h4 q4 => ?_⟩⟩
        · have t : tk len T r.1.1 124 = false := decide_eq_false z
          rw [sLoop_f t]
          exact mk_kL hw1 ⟨fun _ => r3, c1, f1⟩
        · have t : tk len T r.1.1 124 = true := decide_eq_true z
          have hlt := tk_lt (by decide) t
          have hw4 := wf_I q4 hw1
          have c4 := MT_step cm hlt q4
          have f4 := pkf_tr f1 (pkf_n (nfr_s q4 (Or.inl rfl)))
          have hq4 := hgg (r.1.1 + 1) hlt
          rw [sLoop_t t, q2]
          refine use_kL (H h4 _ hw4 (by rw [pkf_L f4]; exact e58) (by rw [pkf_L f4]; exact e6) c4) (fun y h5 hw5 ⟨d1, d2, d3⟩ => ?_)
          refine ih (i + 1) (by omega) h5 ((g (r.1.1 + 1, none)).1, ior r.2 (g (r.1.1 + 1, none)).2) _ hw5 hq4.1 (fun k => ?_) d2 (pkf_tr f4 d3)
          have := hq4.2 k
          exact ⟨by show i + 1 ≤ (g (r.1.1 + 1, none)).1.1; omega, this.2, by rw [r3, d1 k]; rfl⟩
      · have q2 : r.1.2 = some f0 := by rw [q]
        have t : tk len T r.1.1 124 = false := by rw [q]; exact tk_end (by decide)
        obtain ⟨p', cm⟩ := c1.2 f0 q2
        rw [sLoop_f t]
        refine r_X11_either_6 _ _ hw1 ?_
        rw [cm.2.2.2.2.2.1]
        exact ⟨fun _ => mk_kL hw1 ⟨(fun y => by rw [q2] at y; cases y), c1, f1⟩, fun z => absurd (fi_n (cm.2.2.2.2.2.2 f0 rfl)).2 z⟩
  exact key 160 0 rfl h1 (g (p, none)) x hw1 hq.1 (fun k => ⟨Nat.zero_le _, (hq.2 k).2, a1 k⟩) a2 a3
theorem m_fLoop {c : Nat} {S : Int64} {h : AH} {d : Nat} {P : Int64 → AH → Prop} (hc : c = 83 ∨ c = 65) (hw : zWF h) (K : P (if c = 83 then nAny (h.L 58) S else nOnly (h.L 58) S) h) : zQ none m_X11_factor (d + 1) 117 [(0, .ref 53), (2, .int (nI c)), (3, .long S), (5, .long 0), (7, .int (nI 0))] [] h (kL P) := by
  rcases hc with q | q
  · subst q
    rw [if_pos rfl] at K
    have eS : ∀ i, mk (fun v => decide (h.L 58 v &&& S ≠ 0)) (i + 1) = if decide (h.L 58 i &&& S ≠ 0) = true then mk (fun v => decide (h.L 58 v &&& S ≠ 0)) i ||| one i else mk (fun v => decide (h.L 58 v &&& S ≠ 0)) i := fun i => rfl
    refine nat_down (N := 40) (P := fun i => zQ none m_X11_factor (d + 1) 117 [(0, .ref 53), (2, .int (nI 83)), (3, .long S), (5, .long (mk (fun v => decide (h.L 58 v &&& S ≠ 0)) i)), (7, .int (nI i))] [] h _) ?_ (fun i hi ih => ?_) 0 (Nat.zero_le _)
    · exact r_X11_factor_117 _ _ _ _ hw ⟨fun _ => mk_kL hw K, fun y => absurd e40 y⟩
    · rw [eS] at ih
      refine r_X11_factor_117 _ _ _ _ hw ⟨fun y => absurd y (n40 hi), fun _ => ⟨fun y => absurd rfl y, fun _ => ⟨vi40 hi, ?_⟩⟩⟩
      rw [cl40 hi, nI_add]
      refine ⟨fun y => ?_, fun y => ?_⟩
      · rw [lg_cmp0] at y
        rw [if_neg (by rw [decide_eq_true_iff]; exact fun z => z y), ← or0 (mk _ i)] at ih
        exact ih
      · rw [lg_cmp0n] at y
        rw [if_pos (by rw [decide_eq_true_iff]; exact y)] at ih
        exact ih
  · subst q
    rw [if_neg (by decide)] at K
    have eS : ∀ i, mk (fun v => decide (h.L 58 v &&& (S ^^^ (-1)) = 0)) (i + 1) = if decide (h.L 58 i &&& (S ^^^ (-1)) = 0) = true then mk (fun v => decide (h.L 58 v &&& (S ^^^ (-1)) = 0)) i ||| one i else mk (fun v => decide (h.L 58 v &&& (S ^^^ (-1)) = 0)) i := fun i => rfl
    refine nat_down (N := 40) (P := fun i => zQ none m_X11_factor (d + 1) 117 [(0, .ref 53), (2, .int (nI 65)), (3, .long S), (5, .long (mk (fun v => decide (h.L 58 v &&& (S ^^^ (-1)) = 0)) i)), (7, .int (nI i))] [] h _) ?_ (fun i hi ih => ?_) 0 (Nat.zero_le _)
    · exact r_X11_factor_117 _ _ _ _ hw ⟨fun _ => mk_kL hw K, fun y => absurd e40 y⟩
    · rw [eS] at ih
      refine r_X11_factor_117 _ _ _ _ hw ⟨fun y => absurd y (n40 hi), fun _ => ⟨fun _ => ⟨vi40 hi, ?_⟩, fun y => absurd y (by decide)⟩⟩
      rw [cl40 hi, nI_add]
      refine ⟨fun y => ?_, fun y => ?_⟩
      · rw [ne_eq, lg_cmp0n] at y
        rw [if_neg (by rw [decide_eq_true_iff]; exact y), ← or0 (mk _ i)] at ih
        exact ih
      · rw [lg_cmp0] at y
        rw [if_pos (by rw [decide_eq_true_iff]; exact y)] at ih
        exact ih
theorem fourM {x a b c e : Int32} {X F : Prop} (A : (x = b ∨ x = a ∨ x = c ∨ x = e) → X) (B : (x ≠ b ∧ x ≠ a ∧ x ≠ c ∧ x ≠ e) → F) : (x = a → X) ∧ (¬ x = a → (x = b → X) ∧ (¬ x = b → (x = c → X) ∧ (¬ x = c → (x = e → X) ∧ (¬ x = e → F)))) :=
  four (fun z => A (by rcases z with z | z | z | z <;> simp [z])) (fun ⟨z1, z2, z3, z4⟩ => B ⟨z2, z1, z3, z4⟩)
theorem isC_nL {k : Nat} (h : isC k = true) : isL k = false := by
  rcases isC_b h with q | q | q | q <;> subst q <;> rfl
theorem m_factor (hf : GF f) (hT : ∀ i, i < len → T i ≤ 127) (hlen : len ≤ 160) : ∀ D d, D ≤ 4 → mR f hv len T (d + 3 * D + 6) m_X11_factor (nI (4 - D)) (sSi f hv len T D) := by
  intro D
  induction D with
  | zero =>
    intro d _ h p hw e58 e6 hC
    have e : (sSi f hv len T 0 (p, none)).1 = (sTest f hv len T (p, none)).1 ∧ ((sSi f hv len T 0 (p, none)).1.2 = none → sSi f hv len T 0 (p, none) = sTest f hv len T (p, none)) := by
      cases hk : (decide (p < len) && isC (T p)) with
      | true =>
        have e1 : sSi f hv len T 0 (p, none) = (sFail len p (p, none), 0) := if_pos hk
        rw [Bool.and_eq_true] at hk
        have e2 : sTest f hv len T (p, none) = (sFail len p (p, none), 0) := if_neg (by
          rw [show T (p, (none : Option Nat)).1 = T p from rfl, isC_nL hk.2, Bool.and_false]; decide)
        rw [e1, e2]
        exact ⟨rfl, fun _ => rfl⟩
      | false => rw [sSi_no (s := (p, none)) hk]; exact ⟨rfl, fun _ => rfl⟩
    refine r_X11_factor_0 _ hw (use_pI (m_here hw hC) ⟨fun _ => use_kL (m_tested hf hT hw e58 e6 hC) (fun x h' hw' ⟨a1, a2, a3⟩ => mk_kL hw' ⟨fun k => ?_, by rw [e.1]; exact a2, a3⟩), fun y => absurd (by decide) y⟩)
    rw [e.2 k]
    exact a1 (by rw [← e.1]; exact k)
  | succ D ih =>
    intro d hD h p hw e58 e6 hC
    have hpl := hC.2.2.2.2.1
    have HS := ih (d + 2) (by omega)
    have HE : mR f hv len T (d + 3 * D + 8) m_X11_either (nI (4 - D)) (sSeq len T (sSeq len T (sSi f hv len T D) 38 iand) 124 ior) := m_either (d := d + 3 * D + 5) (gg_seq (by decide) (gg_si hlen D)) (m_both (d := d + 3 * D + 4) (gg_si hlen D) (ih d (by omega)))
    have gI := gg_si (f := f) (hv := hv) (T := T) hlen D
    have gE : gg len (sSeq len T (sSeq len T (sSi f hv len T D) 38 iand) 124 ior) := gg_seq (by decide) (gg_seq (by decide) gI)
    rw [show d + 2 + 3 * D + 6 = d + 3 * D + 8 by omega] at HS
    rw [show d + 3 * (D + 1) + 6 = d + 3 * D + 9 by omega]
    generalize d + 3 * D = e0 at HS HE ⊢
    refine r_X11_factor_0 _ hw (use_pI (m_here hw hC) ?_)
    rw [nI_ltE (by omega) (by omega)]
    refine ⟨fun y => absurd y (by omega), fun _ => fourM (fun z => ?_) (fun z => ?_)⟩
    · obtain ⟨h1, h2⟩ := nx_C hT z
      have enx : nx len T p = nI (T p) := if_pos h1
      have h127 := hT _ h1
      have e : sSi f hv len T (D + 1) (p, none) = if T p = 40 then (sNeed len T 41 (sSeq len T (sSeq len T (sSi f hv len T D) 38 iand) 124 ior (p + 1, none)).1, (sSeq len T (sSeq len T (sSi f hv len T D) 38 iand) 124 ior (p + 1, none)).2) else ((sSi f hv len T D (p + 1, none)).1, trC f (T p) (sSi f hv len T D (p + 1, none)).2) := if_pos (by rw [decide_eq_true (show (p, (none : Option Nat)).1 < len from h1), show T (p, (none : Option Nat)).1 = T p from rfl, h2]; rfl)
      rw [e, enx, nI_add, show 4 - (D + 1) + 1 = 4 - D by omega]
      intro h6 q6
      have hw6 := wf_I q6 hw
      have c6 := MT_step hC h1 q6
      have f6 : pkf h h6 := pkf_n (nfr_s q6 (Or.inl rfl))
      have hb := isC_b h2
      generalize T p = c at hb h127 ⊢
      rw [ne_eq, nI_eqE (by omega) (by decide)]
      refine ⟨fun y => ?_, fun y => ?_⟩
      · rw [if_neg y]
        refine use_kL (HS h6 _ hw6 (by rw [pkf_L f6]; exact e58) (by rw [pkf_L f6]; exact e6) c6) (fun x h8 hw8 ⟨b1, b2, b3⟩ => ⟨fun _ => ?_, fun w => absurd w y⟩)
        have f8 := pkf_tr f6 b3
        have e8 : h8.L 58 = f := by rw [pkf_L f8]; exact e58
        rw [ne_eq, nI_eqE (by omega) (by decide)]
        refine ⟨fun k => ?_, fun k => mk_kL hw8 ⟨fun w => ?_, b2, f8⟩⟩
        · refine m_fLoop (by omega) hw8 ⟨fun w => ?_, b2, f8⟩
          rw [e8, b1 w]
          unfold trC
          rw [if_neg k]
        · rw [b1 w]
          unfold trC
          rw [if_pos k]
      · rw [if_pos y]
        have hq := gE (p + 1) h1
        refine use_kL (HE h6 _ hw6 (by rw [pkf_L f6]; exact e58) (by rw [pkf_L f6]; exact e6) c6) (fun x h8 hw8 ⟨b1, b2, b3⟩ => ⟨fun w => absurd y w, fun _ => ?_⟩)
        have f8 := pkf_tr f6 b3
        generalize sSeq len T (sSeq len T (sSi f hv len T D) 38 iand) 124 ior (p + 1, none) = r at hq b1 b2 ⊢
        rcases gd_e hq.1 with q | ⟨f0, q⟩
        · have q2 : r.1.2 = none := by rw [q]
          have cm := b2.1 q2
          rw [cm.2.2.2.2.2.1]
          refine ⟨fun w => absurd w (by decide), fun _ => use_kI (m_isSign (by decide) hw8 cm) (fun x14 h13 hw13 ⟨d1, d2, d3, d4⟩ => mk_kL hw13 ⟨fun w => b1 q2, ?_, pkf_tr f8 (pkf_n ⟨d3, fun j j1 j2 _ => d4 j j1 j2⟩)⟩)⟩
          rw [q]
          cases t : tk len T r.1.1 41 with
          | true =>
            rw [t, if_pos rfl, if_pos rfl] at d2
            rw [sNeed_t t]
            exact mO_n d2
          | false =>
            rw [t, if_neg (by decide), if_neg (by decide)] at d2
            rw [sNeed_f t]
            exact mO_f d2
        · have q2 : r.1.2 = some f0 := by rw [q]
          obtain ⟨p', cm⟩ := b2.2 f0 q2
          rw [cm.2.2.2.2.2.1]
          refine ⟨fun _ => mk_kL hw8 ⟨fun w => ?_, ?_, f8⟩, fun z => absurd (fi_n (cm.2.2.2.2.2.2 f0 rfl)).2 z⟩
          · rw [q, sNeed_d (by decide)] at w; cases w
          · rw [q, sNeed_d (by decide)]; exact mO_f cm
    · have hk := nx_nC hT z
      rw [sSi_no (s := (p, none)) hk]
      exact use_kL (m_tested hf hT hw e58 e6 hC) (fun x h' hw' q => mk_kL hw' q)
end PICK4
