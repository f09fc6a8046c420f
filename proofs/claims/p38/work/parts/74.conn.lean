/-! what hangs together -/
def Cn (A : Nat → Nat → Prop) (a b : Nat) : Prop := ∀ S : Nat → Prop, (∀ x y, A x y → S x → S y) → S a → S b
theorem Cn_rf {A : Nat → Nat → Prop} {a : Nat} : Cn A a a := fun _ _ h => h
theorem Cn_tr {A : Nat → Nat → Prop} {a b c : Nat} (h1 : Cn A a b) (h2 : Cn A b c) : Cn A a c := fun S hS h => h2 S hS (h1 S hS h)
theorem Cn_st {A : Nat → Nat → Prop} {a b : Nat} (h : A a b) : Cn A a b := fun S hS k => hS a b h k
theorem Cn_sy {A : Nat → Nat → Prop} (sy : ∀ x y, A x y → A y x) {a b : Nat} (h : Cn A a b) : Cn A b a :=
  h (fun x => Cn A x a) (fun x y k q => Cn_tr (Cn_st (sy x y k)) q) Cn_rf
theorem Cn_lt {A : Nat → Nat → Prop} {N : Nat} (hN : ∀ x y, A x y → x < N ∧ y < N) {a b : Nat} (ha : a < N) (h : Cn A a b) : b < N := h (fun x => x < N) (fun x y k _ => (hN x y k).2) ha
theorem Cn_last {A : Nat → Nat → Prop} {a b : Nat} (h : Cn A a b) : a = b ∨ ∃ x, A x b := h (fun z => a = z ∨ ∃ x, A x z) (fun x y k _ => Or.inr ⟨x, k⟩) (Or.inl rfl)
def rt (A : Nat → Nat → Prop) (x : Nat) : Prop := ∀ y, Cn A x y → x ≤ y
noncomputable def rtB (A : Nat → Nat → Prop) (x : Nat) : Bool := @decide (rt A x) (Classical.propDecidable _)
noncomputable def cnB (A : Nat → Nat → Prop) (x y : Nat) : Bool := @decide (Cn A x y) (Classical.propDecidable _)
theorem rtB_iff {A : Nat → Nat → Prop} {x : Nat} : rtB A x = true ↔ rt A x := by
  unfold rtB
  exact @decide_eq_true_iff _ (Classical.propDecidable _)
theorem cnB_iff {A : Nat → Nat → Prop} {x y : Nat} : cnB A x y = true ↔ Cn A x y := by
  unfold cnB
  exact @decide_eq_true_iff _ (Classical.propDecidable _)
theorem b_iff {a b : Bool} (h : a = true ↔ b = true) : a = b := by
  cases a <;> cases b <;> simp at h <;> rfl
section MARKS
variable {A : Nat → Nat → Prop} {N : Nat} {M : Nat → Nat}
theorem mi_cn (st : ∀ x y, A x y → M x = M y) {x y : Nat} (h : Cn A x y) : M x = M y := h (fun z => M x = M z) (fun a b k q => q.trans (st a b k)) rfl
theorem sm_up {n x l : Nat} (hx : x < n) : fb_sm (va_up M x l) n + M x = fb_sm M n + l := by
  have e : fb_sm (va_up M x l) n = fb_sm (fun k => if k = x then l else M k) n := fb_sm_cong (fun k _ => by
    by_cases q : k = x
    · rw [if_pos q, q, va_up_self]
    · rw [if_neg q, va_up_ne _ _ q])
  rw [e]
  exact fb_sm_upd M l hx
/-- each part has one root -/
theorem rt_ex (sy : ∀ x y, A x y → A y x) : ∀ n x, x ≤ n → ∃ r, Cn A x r ∧ rt A r
  | n, x, hx => by
    by_cases h : rt A x
    · exact ⟨x, Cn_rf, h⟩
    · have : ∃ y, Cn A x y ∧ y < x := by
        apply Classical.byContradiction
        intro q
        exact h (fun y hy => Classical.byContradiction (fun k => q ⟨y, hy, by omega⟩))
      obtain ⟨y, h1, h2⟩ := this
      cases n with
      | zero => omega
      | succ n =>
        obtain ⟨r, r1, r2⟩ := rt_ex sy n y (by omega)
        exact ⟨r, Cn_tr h1 r1, r2⟩
theorem rt_one (sy : ∀ x y, A x y → A y x) (hN : ∀ x y, A x y → x < N ∧ y < N) {x : Nat} (hx : x < N) : fb_ct (fun y => rtB A y && cnB A x y) N = 1 := by
  obtain ⟨r, r1, r2⟩ := rt_ex sy x x (Nat.le_refl _)
  have hr := Cn_lt hN hx r1
  have e : fb_ct (fun y => rtB A y && cnB A x y) N = fb_ct (fun k => if k = r then true else false) N := fb_ct_cong (fun k hk => by
    by_cases q : k = r
    · rw [if_pos q, q, rtB_iff.mpr r2, cnB_iff.mpr r1]; rfl
    · rw [if_neg q]
      cases z : (rtB A k && cnB A x k) with
      | false => rfl
      | true =>
        rw [Bool.and_eq_true, rtB_iff, cnB_iff] at z
        have h1 := r2 k (Cn_tr (Cn_sy sy r1) z.2)
        have h2 := z.1 r (Cn_tr (Cn_sy sy z.2) r1)
        exact absurd (by omega) q)
  have e2 := fb_ct_upd (fun _ => false) true hr
  have e3 : fb_ct (fun _ => false) N = 0 := fb_ct_zero.mpr (fun _ _ => rfl)
  rw [e]
  rw [e3] at e2
  have e4 : (if (true : Bool) = true then 1 else 0) = 1 := rfl
  have e5 : (if (false : Bool) = true then 1 else 0) = 0 := rfl
  rw [e4, e5] at e2
  omega
end MARKS
/-- vertices joined by the edges of a truss -/
def VA (f : Nat → Int64) (K : Int32) (u v : Nat) : Prop := u < 40 ∧ v < 40 ∧ u ≠ v ∧ inT f K (pr u v) = true
theorem VA_sy (f : Nat → Int64) (K : Int32) (u v : Nat) (h : VA f K u v) : VA f K v u := ⟨h.2.1, h.1, fun q => h.2.2.1 q.symm, by rw [pr_comm]; exact h.2.2.2⟩
theorem VA_lt (f : Nat → Int64) (K : Int32) (u v : Nat) (h : VA f K u v) : u < 40 ∧ v < 40 := ⟨h.1, h.2.1⟩
def hsC (f : Nat → Int64) (K : Int32) (u n : Nat) : Bool := decide (0 < fb_ct (fun v => decide (v ≠ u) && inT f K (pr u v)) n)
theorem hsC_iff {f : Nat → Int64} {K : Int32} {u n : Nat} : hsC f K u n = true ↔ ∃ v, v < n ∧ v ≠ u ∧ inT f K (pr u v) = true := by
  unfold hsC
  rw [decide_eq_true_iff, fb_ct_pos]
  constructor
  · rintro ⟨k, h1, h2⟩
    rw [Bool.and_eq_true, decide_eq_true_iff] at h2
    exact ⟨k, h1, h2.1, h2.2⟩
  · rintro ⟨k, h1, h2, h3⟩
    exact ⟨k, h1, by rw [Bool.and_eq_true, decide_eq_true_iff]; exact ⟨h2, h3⟩⟩
noncomputable def pieN (f : Nat → Int64) (K : Int32) : Nat → Nat := fb_ct (fun u => hsC f K u 40 && rtB (VA f K) u)
theorem hsC_VA {f : Nat → Int64} {K : Int32} {u : Nat} (hu : u < 40) : hsC f K u 40 = true ↔ ∃ v, VA f K u v := by
  rw [hsC_iff]
  constructor
  · rintro ⟨v, h1, h2, h3⟩
    exact ⟨v, hu, h1, fun q => h2 q.symm, h3⟩
  · rintro ⟨v, h1, h2, h3, h4⟩
    exact ⟨v, h2, fun q => h3 q.symm, h4⟩
