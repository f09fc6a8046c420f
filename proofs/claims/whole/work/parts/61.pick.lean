/-! PICK: what each part means, and the class's reading -/
theorem mk_cg {p q : Nat → Bool} : ∀ n, (∀ v, v < n → p v = q v) → mk p n = mk q n
  | 0, _ => rfl
  | n + 1, h => by
    show (if p n = true then mk p n ||| one n else mk p n) = (if q n = true then mk q n ||| one n else mk q n)
    rw [mk_cg n (fun v hv => h v (by omega)), h n (by omega)]
abbrev RS : Type := SS × Int64
def fgV (f : Nat → Int64) (hv : Int64) (L v : Nat) : Nat := if L = 110 then v else if L = 100 then pc (f v) else if L = 116 then tri f v else if L = 99 then cor f v else if gb hv v = true then 1 else 0
theorem fgV_le (f : Nat → Int64) (hv : Int64) (L : Nat) {v : Nat} (h : v < 40) : fgV f hv L v ≤ 1280 := by
  unfold fgV
  have h1 := pc_le (f v)
  have h2 := tri_le f v
  have h3 : cor f v ≤ 39 := corN_le f v 39
  split
  · omega
  · split
    · omega
    · split
      · omega
      · split
        · omega
        · split <;> omega
def isL (L : Nat) : Bool := decide (L = 110) || (decide (L = 100) || (decide (L = 116) || (decide (L = 99) || decide (L = 104))))
def isG (L : Nat) : Bool := decide (L = 60) || (decide (L = 61) || decide (L = 62))
def isC (L : Nat) : Bool := decide (L = 40) || (decide (L = 33) || (decide (L = 83) || decide (L = 65)))
def tsN (sg a n : Nat) : Bool := if sg = 60 then decide (a < n) else if sg = 61 then decide (a = n) else decide (n < a)
def tS (f : Nat → Int64) (hv : Int64) (L sg n : Nat) : Int64 := mk (fun v => tsN sg (fgV f hv L v) n) 40
def rwL (L : Nat) : Nat := if L = 99 then 35 else if L = 100 then 33 else if L = 104 then 36 else if L = 110 then 32 else 34
def EN (f : Nat → Int64) (hv : Int64) (h : AH) : Prop := (∀ v, v < 40 → h.L 31 v = f v) ∧ ∀ L v, isL L = true → v < 40 → h.I (rwL L) v = nI (fgV f hv L v)
def sTest (f : Nat → Int64) (hv : Int64) (len : Nat) (T : Nat → Nat) (s : SS) : RS :=
  if (decide (s.1 < len) && isL (T s.1)) = true then
    if (decide (s.1 + 1 < len) && isG (T (s.1 + 1))) = true then (sNum len T 3 999 (s.1 + 1 + 1, s.2), tS f hv (T s.1) (T (s.1 + 1)) (rd len T 3 (s.1 + 1 + 1) 0).2)
    else (sFail len (s.1 + 1) (s.1 + 1, s.2), 0)
  else (sFail len s.1 s, 0)
def sLoop (len : Nat) (T : Nat → Nat) (g : SS → RS) (t : Nat) (op : Int64 → Int64 → Int64) : Nat → RS → RS
  | 0, r => r
  | n + 1, r => if tk len T r.1.1 t = true then sLoop len T g t op n ((g (r.1.1 + 1, r.1.2)).1, op r.2 (g (r.1.1 + 1, r.1.2)).2) else r
def sSeq (len : Nat) (T : Nat → Nat) (g : SS → RS) (t : Nat) (op : Int64 → Int64 → Int64) (s : SS) : RS := sLoop len T g t op 160 (g s)
def iand (a b : Int64) : Int64 := a &&& b
def ior (a b : Int64) : Int64 := a ||| b
def trC (f : Nat → Int64) (c : Nat) (S : Int64) : Int64 := if c = 33 then AV &&& (S ^^^ (-1)) else if c = 83 then nAny f S else nOnly f S
def sSi (f : Nat → Int64) (hv : Int64) (len : Nat) (T : Nat → Nat) : Nat → SS → RS
  | 0 => fun s => if (decide (s.1 < len) && isC (T s.1)) = true then (sFail len s.1 s, 0) else sTest f hv len T s
  | D + 1 => fun s => if (decide (s.1 < len) && isC (T s.1)) = true then
      (if T s.1 = 40 then (sNeed len T 41 (sSeq len T (sSeq len T (sSi f hv len T D) 38 iand) 124 ior (s.1 + 1, s.2)).1, (sSeq len T (sSeq len T (sSi f hv len T D) 38 iand) 124 ior (s.1 + 1, s.2)).2)
       else ((sSi f hv len T D (s.1 + 1, s.2)).1, trC f (T s.1) (sSi f hv len T D (s.1 + 1, s.2)).2))
      else sTest f hv len T s
theorem three {x a b c : Int32} {X F : Prop} (A : (x = a ∨ x = b ∨ x = c) → X) (B : (x ≠ a ∧ x ≠ b ∧ x ≠ c) → F) : (x = a → X) ∧ (¬ x = a → (x = b → X) ∧ (¬ x = b → (x = c → X) ∧ (¬ x = c → F))) :=
  ⟨fun z => A (Or.inl z), fun z1 => ⟨fun z => A (Or.inr (Or.inl z)), fun z2 => ⟨fun z => A (Or.inr (Or.inr z)), fun z3 => B ⟨z1, z2, z3⟩⟩⟩⟩
section PICKC
variable {d : Nat} {h : AH} {len : Nat} {T : Nat → Nat} {f : Nat → Int64} {hv : Int64}
theorem EN_23 {h' : AH} (a : frm [23] [] h h') (e : EN f hv h) : EN f hv h' := by
  refine ⟨fun v hv => by rw [frm_L a List.not_mem_nil]; exact e.1 v hv, fun L v hL hv => ?_⟩
  rw [frm_I a (k := rwL L) ?_]
  · exact e.2 L v hL hv
  · unfold rwL
    split
    · decide
    · split
      · decide
      · split
        · decide
        · split <;> decide
theorem c_fig {p : Nat} {A : Prop} {B : Nat → Prop} (hT : ∀ i, i < len → T i ≤ 127) (hw : zWF h) (HB : (decide (p < len) && isL (T p)) = true → B (rwL (T p))) (HA : (decide (p < len) && isL (T p)) = false → A) : zK (d + 1) m_X7_figuresOf [.ref 30, .int (nx len T p)] h (pFig h A B) := by
  have go : ∀ L r, isL L = true → rwL L = r → L ≤ 160 → h.sh r = some (.inr (0, 40)) → nx len T p = nI L → pFig h A B (some (.ref r)) h := by
    intro L r h1 h2 h3 h4 h5
    have e1 := nx_eq hT h3 h5
    have e2 := nx_in h3 h5
    rw [e1, h2] at HB
    exact ⟨rfl, Or.inr ⟨r, rfl, h4, HB (by rw [decide_eq_true e2, h1]; rfl)⟩⟩
  refine r_X7_figuresOf_0 _ hw ⟨fun z => go 99 35 rfl rfl (by decide) (sh_35 hw) z, fun z => go 100 33 rfl rfl (by decide) (sh_33 hw) z, fun z => go 104 36 rfl rfl (by decide) (sh_36 hw) z, fun z => go 110 32 rfl rfl (by decide) (sh_32 hw) z, fun z => go 116 34 rfl rfl (by decide) (sh_34 hw) z, fun ⟨z1, z2, z3, z4, z5⟩ => ⟨rfl, Or.inl ⟨rfl, HA ?_⟩⟩⟩
  by_cases y : p < len
  · rw [decide_eq_true y, Bool.true_and]
    have enx : nx len T p = nI (T p) := if_pos y
    have h127 := hT _ y
    rw [enx, nI_eqE (by omega) (by decide)] at z1 z2 z3 z4 z5
    unfold isL
    rw [decide_eq_false z1, decide_eq_false z2, decide_eq_false z3, decide_eq_false z4, decide_eq_false z5]; rfl
  · rw [decide_eq_false y]; rfl
theorem isG_b {k : Nat} (h : isG k = true) : k = 60 ∨ k = 61 ∨ k = 62 := by
  unfold isG at h
  rw [Bool.or_eq_true, Bool.or_eq_true, decide_eq_true_iff, decide_eq_true_iff, decide_eq_true_iff] at h
  exact h
theorem isC_b {k : Nat} (h : isC k = true) : k = 40 ∨ k = 33 ∨ k = 83 ∨ k = 65 := by
  unfold isC at h
  rw [Bool.or_eq_true, Bool.or_eq_true, Bool.or_eq_true, decide_eq_true_iff, decide_eq_true_iff, decide_eq_true_iff, decide_eq_true_iff] at h
  exact h
theorem isL_b {k : Nat} (h : isL k = true) : k = 110 ∨ k = 100 ∨ k = 116 ∨ k = 99 ∨ k = 104 := by
  unfold isL at h
  rw [Bool.or_eq_true, Bool.or_eq_true, Bool.or_eq_true, Bool.or_eq_true, decide_eq_true_iff, decide_eq_true_iff, decide_eq_true_iff, decide_eq_true_iff, decide_eq_true_iff] at h
  exact h
theorem c_holds {a n sg : Nat} (ha : a ≤ 1280) (hn : n < 1000) (hs : isG sg = true) (hw : zWF h) : zK (d + 1) m_X7_holds [.int (nI a), .int (nI sg), .int (nI n)] h (pI h (fun x => x = bI (tsN sg a n))) := by
  refine r_X7_holds_0 _ _ _ hw ?_
  rw [nI_leE (by omega) (by omega), nI_leE (by omega) (by omega), ne_eq, ne_eq, ne_eq, nI_eqE (a := a) (by omega) (by omega)]
  rcases isG_b hs with q | q | q
  · subst q
    refine ⟨fun z => absurd rfl z, fun _ => ⟨fun z => mk_pI (bI_f ?_), fun z => mk_pI (bI_t ?_)⟩⟩
    · unfold tsN; rw [if_pos rfl, decide_eq_false (by omega)]
    · unfold tsN; rw [if_pos rfl, decide_eq_true (by omega)]
  · subst q
    refine ⟨fun _ => ⟨fun z => absurd rfl z, fun _ => ⟨fun z => mk_pI (bI_f ?_), fun z => mk_pI (bI_t ?_)⟩⟩, fun z => absurd z (by decide)⟩
    · unfold tsN; rw [if_neg (by decide), if_pos rfl, decide_eq_false z]
    · unfold tsN; rw [if_neg (by decide), if_pos rfl, decide_eq_true z]
  · subst q
    refine ⟨fun _ => ⟨fun _ => ⟨fun z => mk_pI (bI_f ?_), fun z => mk_pI (bI_t ?_)⟩, fun z => absurd z (by decide)⟩, fun z => absurd z (by decide)⟩
    · unfold tsN; rw [if_neg (by decide), if_neg (by decide), decide_eq_false (by omega)]
    · unfold tsN; rw [if_neg (by decide), if_neg (by decide), decide_eq_true (by omega)]
theorem rd3_b (p : Nat) : (rd len T 3 p 0).2 < 1000 := rd_a 3 p 0
theorem c_test {s : SS} (hT : ∀ i, i < len → T i ≤ 127) (hw : zWF h) (hE : EN f hv h) (hC : CS h len T s) : zK (d + 3) m_X7_test [.ref 30, .ref 23] h (kL (fun x h' => x = (sTest f hv len T s).2 ∧ CS h' len T (sTest f hv len T s).1 ∧ frm [23] [] h h')) := by
  have hp := CS_p hC
  refine r_X7_test_0 hw (use_pI (c_next hw hC) (c_fig hT hw (fun hL => ?_) (fun hL => ?_)))
  · intro h4 q4
    rw [Bool.and_eq_true, decide_eq_true_iff] at hL
    obtain ⟨hlt, hL⟩ := hL
    have c4 : CS h4 len T (s.1 + 1, s.2) := CT_step hC hlt q4
    have hw4 := wf_I q4 hw
    have f4 : frm [23] [] h h4 := frm_wI q4 (by decide)
    have hp4 := CS_p c4
    have eT : sTest f hv len T s = if (decide (s.1 + 1 < len) && isG (T (s.1 + 1))) = true then (sNum len T 3 999 (s.1 + 1 + 1, s.2), tS f hv (T s.1) (T (s.1 + 1)) (rd len T 3 (s.1 + 1 + 1) 0).2) else (sFail len (s.1 + 1) (s.1 + 1, s.2), 0) := by
      unfold sTest
      rw [if_pos (by rw [decide_eq_true hlt, hL]; rfl)]
    rw [eT]
    refine use_pI (c_next hw4 c4) (three (fun z => ?_) (fun ⟨z1, z2, z3⟩ => ?_))
    · have h160 : ∃ g, isG g = true ∧ g ≤ 160 ∧ nx len T (s.1 + 1) = nI g := by
        rcases z with z | z | z
        · exact ⟨60, rfl, by decide, z⟩
        · exact ⟨61, rfl, by decide, z⟩
        · exact ⟨62, rfl, by decide, z⟩
      obtain ⟨g, g1, g2, g3⟩ := h160
      clear z
      have e1 := nx_eq hT g2 g3
      have e2 := nx_in g2 g3
      intro h8 q8
      have c8 : CS h8 len T (s.1 + 1 + 1, s.2) := CT_step c4 e2 q8
      have hw8 := wf_I q8 hw4
      rw [if_pos (by rw [decide_eq_true e2, e1, g1]; rfl), g3, e1]
      refine use_kI (c_numS (by decide) (by decide) hT hw8 c8) (fun x h10 hw10 ⟨b1, b2, b3⟩ => ?_)
      subst b1
      have f10 : frm [23] [] h h10 := frm_tr f4 (frm_tr (frm_wI q8 (by decide)) b3)
      have E10 := EN_23 f10 hE
      have hb := rd3_b (len := len) (T := T) (s.1 + 1 + 1)
      have hsh : h10.sh (rwL (T s.1)) = some (.inr (0, 40)) := by
        rcases isL_b hL with q | q | q | q | q
        · rw [q]; exact sh_32 hw10
        · rw [q]; exact sh_33 hw10
        · rw [q]; exact sh_34 hw10
        · rw [q]; exact sh_35 hw10
        · rw [q]; exact sh_36 hw10
      refine ⟨hsh, ?_⟩
      have eS : ∀ i, mk (fun v => tsN g (fgV f hv (T s.1) v) (rd len T 3 (s.1 + 1 + 1) 0).2) (i + 1) = if tsN g (fgV f hv (T s.1) i) (rd len T 3 (s.1 + 1 + 1) 0).2 = true then mk (fun v => tsN g (fgV f hv (T s.1) v) (rd len T 3 (s.1 + 1 + 1) 0).2) i ||| one i else mk (fun v => tsN g (fgV f hv (T s.1) v) (rd len T 3 (s.1 + 1 + 1) 0).2) i := fun i => rfl
      refine nat_down (N := 40) (P := fun i => zQ none _ _ 92 [(2, _), (3, _), (4, _), (5, .long (mk (fun v => tsN g (fgV f hv (T s.1) v) (rd len T 3 (s.1 + 1 + 1) 0).2) i)), (7, .int (nI i))] [] h10 _) ?_ (fun i hi ih => ?_) 0 (Nat.zero_le _)
      · exact r_X7_test_92 _ _ _ _ _ hw10 hsh ⟨fun _ => mk_kL hw10 ⟨rfl, b2, f10⟩, fun y => absurd e40 y⟩
      · refine r_X7_test_92 _ _ _ _ _ hw10 hsh ⟨fun y => absurd y (n40 hi), fun _ => ⟨vi40 hi, ?_⟩⟩
        rw [cl40 hi, nI_add, E10.2 _ i hL hi]
        rw [eS] at ih
        refine use_pI (c_holds (fgV_le f hv _ hi) hb g1 hw10) ?_
        cases e : tsN g (fgV f hv (T s.1) i) (rd len T 3 (s.1 + 1 + 1) 0).2 with
        | true => rw [if_pos e] at ih; exact ⟨fun y => absurd y bt0, fun _ => ih⟩
        | false => rw [if_neg (by rw [e]; decide)] at ih; exact ⟨fun _ => ih, fun y => absurd bf0 y⟩
    · have hk : (decide (s.1 + 1 < len) && isG (T (s.1 + 1))) = false := by
        by_cases y : s.1 + 1 < len
        · rw [decide_eq_true y, Bool.true_and]
          have enx : nx len T (s.1 + 1) = nI (T (s.1 + 1)) := if_pos y
          have h127 := hT _ y
          rw [enx, ne_eq, nI_eqE (by omega) (by decide)] at z1 z2 z3
          unfold isG
          rw [decide_eq_false z1, decide_eq_false z2, decide_eq_false z3]; rfl
        · rw [decide_eq_false y]; rfl
      rw [if_neg (by rw [hk]; decide), c4.2.2.2.1]
      exact use_kV (c_failS hp4 hw4 c4) (fun h25 hw25 ⟨b1, b2⟩ => mk_kL hw25 ⟨rfl, b1, frm_tr f4 b2⟩)
  · have eT : sTest f hv len T s = (sFail len s.1 s, 0) := by unfold sTest; rw [if_neg (by rw [hL]; decide)]
    rw [eT, hC.2.2.2.1]
    exact use_kV (c_failS hp hw hC) (fun h3 hw3 ⟨b1, b2⟩ => mk_kL hw3 ⟨rfl, b1, b2⟩)
end PICKC
