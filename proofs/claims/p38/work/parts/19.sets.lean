/-! checks of numbers -/
abbrev bI (b : Bool) : Int32 := if b = true then nI 1 else nI 0
theorem bI_t {b : Bool} (h : b = true) : nI 1 = bI b := (if_pos h).symm
theorem bI_f {b : Bool} (h : b = false) : nI 0 = bI b := (if_neg (by rw [h]; decide)).symm
def vxB (x : Int32) : Bool := decide (¬ x < 0) && decide (¬ nI 40 ≤ x)
theorem vxB_iff {x : Int32} : vxB x = true ↔ ∃ j, j < 40 ∧ x = nI j := by
  unfold vxB
  rw [Bool.and_eq_true, decide_eq_true_iff, decide_eq_true_iff]
  constructor
  · rintro ⟨h1, h2⟩
    rcases pk_ix x (n := 40) (by decide) with q | q | q
    · exact absurd q h1
    · exact absurd q h2
    · exact q
  · rintro ⟨j, hj, rfl⟩
    exact ⟨nI_lt0 (by omega), n40 hj⟩
theorem vxB_n {j : Nat} (h : j < 40) : vxB (nI j) = true := vxB_iff.mpr ⟨j, h, rfl⟩
def twB (x y : Int32) : Bool := vxB x && vxB y && decide (¬ x = y)
theorem twB_iff {x y : Int32} : twB x y = true ↔ ∃ u v, u < 40 ∧ v < 40 ∧ u ≠ v ∧ x = nI u ∧ y = nI v := by
  unfold twB
  rw [Bool.and_eq_true, Bool.and_eq_true, vxB_iff, vxB_iff, decide_eq_true_iff]
  constructor
  · rintro ⟨⟨⟨u, hu, rfl⟩, ⟨v, hv, rfl⟩⟩, hne⟩
    exact ⟨u, v, hu, hv, fun q => hne (by rw [q]), rfl, rfl⟩
  · rintro ⟨u, v, hu, hv, hne, rfl, rfl⟩
    exact ⟨⟨⟨u, hu, rfl⟩, ⟨v, hv, rfl⟩⟩, fun q => hne ((nI_eqE (by omega) (by omega)).mp q)⟩
section CHK
variable {d : Nat} {h : AH}
theorem c_isVertex (x : Int32) : zK (d + 1) m_X10_isVertex [.int x] h (pI h (fun y => y = bI (vxB x))) := by
  refine r_X10_isVertex_0 x ⟨fun q => mk_pI (bI_f ?_), fun q => ⟨fun z => mk_pI (bI_f ?_), fun z => mk_pI (bI_t ?_)⟩⟩
  · unfold vxB; rw [decide_eq_false (fun w => w q)]; rfl
  · unfold vxB; rw [decide_eq_false (p := ¬ nI 40 ≤ x) (fun w => w z), Bool.and_false]
  · unfold vxB; rw [decide_eq_true q, decide_eq_true z]; rfl
theorem c_isTwo (x y : Int32) : zK (d + 2) m_X10_isTwo [.int x, .int y] h (pI h (fun z => z = bI (twB x y))) := by
  refine r_X10_isTwo_0 x y (use_pI (c_isVertex x) ⟨fun q => mk_pI (bI_f ?_), fun q => use_pI (c_isVertex y) ⟨fun z => mk_pI (bI_f ?_), fun z => ⟨fun e => mk_pI (bI_f ?_), fun e => mk_pI (bI_t ?_)⟩⟩⟩)
  · unfold twB; rw [bF q]; rfl
  · unfold twB; rw [bF z, Bool.and_false]; rfl
  · unfold twB; rw [decide_eq_false (p := ¬ x = y) (fun w => w e), Bool.and_false]
  · unfold twB; rw [bT q, bT z, decide_eq_true e]; rfl
theorem i39 (x : Int32) : (nI 39 < x) ↔ (nI 40 ≤ x) := by
  rw [Int32.lt_iff_toInt_lt, Int32.le_iff_toInt_le, nI_toInt (by decide), nI_toInt (by decide)]
  omega
theorem bI01 (b : Bool) : bI b = 0 ∨ bI b = 1 := by cases b <;> decide
end CHK
/-! sets of vertices as bits -/
def mk (p : Nat → Bool) : Nat → Int64
  | 0 => 0
  | n + 1 => if p n = true then mk p n ||| one n else mk p n
theorem gb_mk (p : Nat → Bool) (i : Nat) : ∀ n, n ≤ 64 → gb (mk p n) i = (decide (i < n) && p i)
  | 0, _ => by rw [show mk p 0 = 0 from rfl, gb_0]; simp
  | n + 1, h => by
    show gb (if p n = true then mk p n ||| one n else mk p n) i = _
    by_cases hp : p n = true
    · rw [if_pos hp, gb_or, gb_mk p i n (by omega), gb_one (by omega)]
      by_cases hi : i = n
      · subst hi; simp [hp]
      · by_cases h2 : i < n
        · simp [hi, h2, Nat.lt_succ_of_lt h2]
        · have h3 : ¬ i < n + 1 := by omega
          simp [hi, h2, h3]
    · rw [if_neg hp, gb_mk p i n (by omega)]
      by_cases hi : i = n
      · subst hi; simp [hp]
      · by_cases h2 : i < n
        · simp [h2, Nat.lt_succ_of_lt h2]
        · have h3 : ¬ i < n + 1 := by omega
          simp [h2, h3]
abbrev AV : Int64 := 1099511627775
theorem gb_AV : ∀ i, gb AV i = decide (i < 40) := by
  have h : ∀ i, i < 64 → gb AV i = decide (i < 40) := by decide +kernel
  intro i
  by_cases hi : i < 64
  · exact h i hi
  · rw [gb_ge (by omega), decide_eq_false (by omega)]
def sub (S T : Int64) : Prop := ∀ i, gb S i = true → gb T i = true
theorem sub_eq {S T : Int64} (h1 : sub S T) (h2 : sub T S) : S = T := gb_ext (fun i _ => by
  cases hs : gb S i with
  | true => exact (h1 i hs).symm
  | false => cases ht : gb T i with
    | true => rw [h2 i ht] at hs; cases hs
    | false => rfl)
theorem eq0_iff {S : Int64} : S = 0 ↔ ∀ i, gb S i = false := ⟨fun h i => by rw [h, gb_0], fun h => gb_ext (fun i _ => by rw [h i, gb_0])⟩
theorem ne0_iff {S : Int64} : S ≠ 0 ↔ ∃ i, gb S i = true := by
  rw [ne_eq, eq0_iff]
  constructor
  · intro h
    apply Classical.byContradiction
    intro q
    exact h (fun i => Bool.eq_false_iff.mpr (fun z => q ⟨i, z⟩))
  · rintro ⟨i, hi⟩ h
    rw [h i] at hi
    cases hi
theorem pc_mono {S T : Int64} (h : sub S T) : pc S ≤ pc T := fb_ct_sub (fun k _ => h k)
theorem and_sub {x S T : Int64} (h : sub S T) : sub (x &&& S) (x &&& T) := fun i hi => by
  rw [gb_and, Bool.and_eq_true] at hi ⊢
  exact ⟨hi.1, h i hi.2⟩
/-- the rows of a net -/
def GF (f : Nat → Int64) : Prop := (∀ u v, gb (f u) v = gb (f v) u) ∧ (∀ u, gb (f u) u = false) ∧ ∀ u v, gb (f u) v = true → u < 40 ∧ v < 40
def nAny (f : Nat → Int64) (S : Int64) : Int64 := mk (fun v => decide (f v &&& S ≠ 0)) 40
def nOnly (f : Nat → Int64) (S : Int64) : Int64 := mk (fun v => decide (f v &&& (S ^^^ (-1)) = 0)) 40
theorem lg_cmp0n (x y : Int64) : ¬ lg_cmp x y = 0 ↔ x ≠ y := not_congr (lg_cmp0 x y)
section NEAR
variable {d : Nat} {h : AH} {r0 : Nat}
theorem c_nearAny (S : Int64) (hs : h.sh r0 = some (.inr (1, 40))) : zK (d + 1) m_X2_nearAny [.ref r0, .long S] h (pL h (fun x => x = nAny (h.L r0) S)) := by
  refine r_X2_nearAny_0 r0 S hs ?_
  refine nat_down (N := 40) (P := fun i => zQ none _ _ 5 [(0, _), (1, _), (3, .long (mk (fun v => decide (h.L r0 v &&& S ≠ 0)) i)), (5, .int (nI i))] [] h _) ?_ (fun i hi ih => ?_) 0 (Nat.zero_le _)
  · exact r_X2_nearAny_5 r0 _ _ _ hs ⟨fun _ => mk_pL rfl, fun q => absurd e40 q⟩
  · refine r_X2_nearAny_5 r0 _ _ _ hs ⟨fun q => absurd q (n40 hi), fun _ => ⟨vi40 hi, ?_⟩⟩
    rw [cl40 hi, nI_add]
    refine ⟨fun q => ?_, fun q => ?_⟩
    · rw [lg_cmp0] at q
      have e : mk (fun v => decide (h.L r0 v &&& S ≠ 0)) (i + 1) = mk (fun v => decide (h.L r0 v &&& S ≠ 0)) i := if_neg (by simp [q])
      rw [e] at ih
      exact ih
    · rw [lg_cmp0n] at q
      have e : mk (fun v => decide (h.L r0 v &&& S ≠ 0)) (i + 1) = mk (fun v => decide (h.L r0 v &&& S ≠ 0)) i ||| one i := if_pos (by simp [q])
      rw [e] at ih
      exact ih
/-! FAR -/
def farL (f : Nat → Int64) (v : Nat) : Nat → Nat → Int64 → Int32
  | 0, _, _ => -5
  | n + 1, s, S => if gb (S ||| nAny f S) v = true then nI s else farL f v n (s + 1) (S ||| nAny f S)
theorem c_far {u v : Nat} (hs : h.sh r0 = some (.inr (1, 40))) (hu : u < 40) (hv : v < 40) : zK (d + 2) m_X2_far [.ref r0, .int (nI u), .int (nI v)] h (pI h (fun x => x = farL (h.L r0) v 39 1 (one u))) := by
  refine r_X2_far_0 r0 (nI u) (nI v) hs ?_
  have key : ∀ n s S, n + s = 40 → zQ none m_X2_far (d + 1 + 1) 7 [(0, .ref r0), (2, .int (nI v)), (3, .long S), (5, .int (nI s))] [] h (pI h (fun x => x = farL (h.L r0) v n s S)) := by
    intro n
    induction n with
    | zero =>
      intro s S hn
      rw [Nat.zero_add] at hn
      subst hn
      exact r_X2_far_7 r0 _ _ _ hs ⟨fun _ => mk_pI rfl, fun q => absurd e40 q⟩
    | succ n ih =>
      intro s S hn
      refine r_X2_far_7 r0 _ _ _ hs ⟨fun q => absurd q (n40 (by omega)), fun _ => use_pL (c_nearAny S hs) (use_pI (c_hasBit (by omega)) ⟨fun q => ?_, fun q => mk_pI ?_⟩)⟩
      · rw [nI_add]
        have e : farL (h.L r0) v (n + 1) s S = farL (h.L r0) v n (s + 1) (S ||| nAny (h.L r0) S) := if_neg (by rw [bF q]; decide)
        rw [e]
        exact ih _ _ (by omega)
      · exact (if_pos (bT q)).symm
  exact key 39 1 _ rfl
end NEAR
/-- those near some vertex of a set, gathered -/
def orA (f : Nat → Int64) (S : Int64) (T : Int64) : Nat → Int64
  | 0 => T
  | n + 1 => if gb S n = true then orA f S T n ||| f n else orA f S T n
theorem gb_orA (f : Nat → Int64) (S T : Int64) (i : Nat) : ∀ n, gb (orA f S T n) i = true ↔ gb T i = true ∨ ∃ a, a < n ∧ gb S a = true ∧ gb (f a) i = true
  | 0 => ⟨fun h => Or.inl h, fun h => h.elim id (fun ⟨a, ha, _⟩ => absurd ha (Nat.not_lt_zero _))⟩
  | n + 1 => by
    show gb (if gb S n = true then orA f S T n ||| f n else orA f S T n) i = true ↔ _
    by_cases hs : gb S n = true
    · rw [if_pos hs, gb_or, Bool.or_eq_true, gb_orA f S T i n]
      constructor
      · rintro ((h | ⟨a, ha, h1, h2⟩) | h)
        · exact Or.inl h
        · exact Or.inr ⟨a, by omega, h1, h2⟩
        · exact Or.inr ⟨n, by omega, hs, h⟩
      · rintro (h | ⟨a, ha, h1, h2⟩)
        · exact Or.inl (Or.inl h)
        · by_cases e : a = n
          · subst e; exact Or.inr h2
          · exact Or.inl (Or.inr ⟨a, by omega, h1, h2⟩)
    · rw [if_neg hs, gb_orA f S T i n]
      constructor
      · rintro (h | ⟨a, ha, h1, h2⟩)
        · exact Or.inl h
        · exact Or.inr ⟨a, by omega, h1, h2⟩
      · rintro (h | ⟨a, ha, h1, h2⟩)
        · exact Or.inl h
        · by_cases e : a = n
          · subst e; exact absurd h1 hs
          · exact Or.inr ⟨a, by omega, h1, h2⟩
theorem gb_nAny {f : Nat → Int64} {S : Int64} {i : Nat} : gb (nAny f S) i = true ↔ i < 40 ∧ ∃ a, gb (f i) a = true ∧ gb S a = true := by
  unfold nAny
  rw [gb_mk _ _ _ (by decide), Bool.and_eq_true, decide_eq_true_iff, decide_eq_true_iff, ne0_iff]
  constructor
  · rintro ⟨h1, a, h2⟩
    rw [gb_and, Bool.and_eq_true] at h2
    exact ⟨h1, a, h2⟩
  · rintro ⟨h1, a, h2⟩
    exact ⟨h1, a, by rw [gb_and, Bool.and_eq_true]; exact h2⟩
theorem orA_any {f : Nat → Int64} {S : Int64} (hf : GF f) : orA f S S 40 = S ||| nAny f S := by
  apply sub_eq
  · intro i hi
    rw [gb_orA] at hi
    rw [gb_or, Bool.or_eq_true, gb_nAny]
    rcases hi with h | ⟨a, ha, h1, h2⟩
    · exact Or.inl h
    · exact Or.inr ⟨(hf.2.2 a i h2).2, a, by rw [hf.1]; exact h2, h1⟩
  · intro i hi
    rw [gb_or, Bool.or_eq_true, gb_nAny] at hi
    rw [gb_orA]
    rcases hi with h | ⟨_, a, h1, h2⟩
    · exact Or.inl h
    · exact Or.inr ⟨a, (hf.2.2 i a h1).2, h2, by rw [hf.1]; exact h1⟩
theorem or0 (x : Int64) : x ||| 0 = x := gb_ext (fun i _ => by rw [gb_or, gb_0, Bool.or_false])
