/-! FEWEST: the first edge of a triangle, and its lowest third -/
def cm (g : Nat → Int64) (e : Nat) : Int64 := g (e / 40) &&& g (e % 40)
def fF (g : Nat → Int64) : Nat → Nat → Option Nat
  | 0, _ => none
  | n + 1, e => if isE g e = true ∧ cm g e ≠ 0 then some e else fF g n (e + 1)
def lb (x : Int64) : Nat → Nat → Nat
  | 0, c => c
  | n + 1, c => if gb x c = true then c else lb x n (c + 1)
def en : Nat → (Nat → Int64) → Bool
  | 0, g => (fF g 1600 0).isNone
  | k + 1, g => match fF g 1600 0 with
    | none => true
    | some e => en k (flip g (e / 40) (e % 40)) || (en k (flip g (e / 40) (lb (cm g e) 40 0)) || en k (flip g (e % 40) (lb (cm g e) 40 0)))
theorem fF_some {g : Nat → Int64} : ∀ {n s e}, fF g n s = some e → s ≤ e ∧ e < s + n ∧ isE g e = true ∧ cm g e ≠ 0 ∧ ∀ i, s ≤ i → i < e → ¬ (isE g i = true ∧ cm g i ≠ 0)
  | 0, s, e, h => by cases h
  | n + 1, s, e, h => by
    have hs : (if isE g s = true ∧ cm g s ≠ 0 then some s else fF g n (s + 1)) = some e := h
    by_cases z : isE g s = true ∧ cm g s ≠ 0
    · rw [if_pos z] at hs
      cases hs
      exact ⟨Nat.le_refl _, by omega, z.1, z.2, fun i h1 h2 => by omega⟩
    · rw [if_neg z] at hs
      obtain ⟨a1, a2, a3, a4, a5⟩ := fF_some hs
      exact ⟨by omega, by omega, a3, a4, fun i h1 h2 => by
        by_cases y : i = s
        · rw [y]; exact z
        · exact a5 i (by omega) h2⟩
theorem lb_spec {x : Int64} : ∀ n c, (∃ i, c ≤ i ∧ i < c + n ∧ gb x i = true) → c ≤ lb x n c ∧ lb x n c < c + n ∧ gb x (lb x n c) = true ∧ ∀ i, c ≤ i → i < lb x n c → gb x i = false
  | 0, c, ⟨i, h1, h2, _⟩ => by omega
  | n + 1, c, ⟨i, h1, h2, h3⟩ => by
    have e : lb x (n + 1) c = if gb x c = true then c else lb x n (c + 1) := rfl
    by_cases z : gb x c = true
    · rw [e, if_pos z]
      exact ⟨Nat.le_refl _, by omega, z, fun j a b => by omega⟩
    · rw [e, if_neg z]
      have hic : i ≠ c := fun y => z (y ▸ h3)
      obtain ⟨a1, a2, a3, a4⟩ := lb_spec n (c + 1) ⟨i, by omega, by omega, h3⟩
      exact ⟨by omega, by omega, a3, fun j b1 b2 => by
        by_cases y : j = c
        · rw [y]; exact ts_nt z
        · exact a4 j (by omega) b2⟩
theorem ne0_gb {x : Int64} (h : x ≠ 0) : ∃ i, i < 64 ∧ gb x i = true := by
  apply Classical.byContradiction
  intro q
  apply h
  apply gb_ext
  intro i hi
  rw [gb_0]
  cases hc : gb x i with
  | false => rfl
  | true => exact absurd ⟨i, hi, hc⟩ q
theorem gb_ne0 {x : Int64} {i : Nat} (h : gb x i = true) : x ≠ 0 := fun q => by rw [q, gb_0] at h; cases h
/-- the third vertices of the first edge stand behind its second one -/
theorem first_third {g : Nat → Int64} (hf : GF g) {e : Nat} (he : fF g 1600 0 = some e) : (∀ c, gb (cm g e) c = true → e % 40 < c ∧ c < 40) ∧ (0 ≤ lb (cm g e) 40 0 ∧ lb (cm g e) 40 0 < 40 ∧ gb (cm g e) (lb (cm g e) 40 0) = true ∧ ∀ i, i < lb (cm g e) 40 0 → gb (cm g e) i = false) ∧ e < 1600 ∧ isE g e = true ∧ cm g e ≠ 0 := by
  obtain ⟨a1, a2, a3, a4, a5⟩ := fF_some he
  obtain ⟨b1, b2⟩ := isE_b a3
  have thirds : ∀ c, gb (cm g e) c = true → e % 40 < c ∧ c < 40 := by
    intro c hc
    unfold cm at hc
    rw [gb_and, Bool.and_eq_true] at hc
    obtain ⟨c1, c2⟩ := hc
    have hc40 := (hf.2.2 _ _ c1).2
    refine ⟨?_, hc40⟩
    apply Classical.byContradiction
    intro hle
    have n1 : c ≠ e / 40 := fun q => by rw [q, hf.2.1] at c1; cases c1
    have n2 : c ≠ e % 40 := fun q => by rw [q, hf.2.1] at c2; cases c2
    rcases Nat.lt_or_gt_of_ne n1 with z | z
    · refine a5 (40 * c + e / 40) (Nat.zero_le _) (by omega) ⟨?_, ?_⟩
      · unfold isE
        rw [show (40 * c + e / 40) / 40 = c by omega, show (40 * c + e / 40) % 40 = e / 40 by omega, decide_eq_true z, hf.1, c1]; rfl
      · refine gb_ne0 (i := e % 40) ?_
        unfold cm
        rw [show (40 * c + e / 40) / 40 = c by omega, show (40 * c + e / 40) % 40 = e / 40 by omega, gb_and, hf.1, c2, b2]; rfl
    · refine a5 (40 * (e / 40) + c) (Nat.zero_le _) (by omega) ⟨?_, ?_⟩
      · unfold isE
        rw [show (40 * (e / 40) + c) / 40 = e / 40 by omega, show (40 * (e / 40) + c) % 40 = c by omega, decide_eq_true z, c1]; rfl
      · refine gb_ne0 (i := e % 40) ?_
        unfold cm
        rw [show (40 * (e / 40) + c) / 40 = e / 40 by omega, show (40 * (e / 40) + c) % 40 = c by omega, gb_and, b2, hf.1 c, c2]; rfl
  obtain ⟨i, _, hi⟩ := ne0_gb a4
  have := lb_spec (x := cm g e) 40 0 ⟨i, Nat.zero_le _, by have := (thirds i hi).2; omega, hi⟩
  exact ⟨thirds, ⟨this.1, by omega, this.2.2.1, fun i h => this.2.2.2 i (Nat.zero_le _) h⟩, by omega, a3, a4⟩
section FEWEST
variable {d : Nat} {h : AH} {g : Nat → Int64}
theorem flip_cong {f g : Nat → Int64} {u v : Nat} (hu : u < 40) (hv : v < 40) (hg : ∀ k, k < 40 → f k = g k) : ∀ k, k < 40 → flip f u v k = flip g u v k := by
  intro k hk
  unfold flip
  rw [hg u hu, hg v hv]
  by_cases e : k = v
  · rw [e, va_up_self, va_up_self]
  · rw [va_up_ne _ _ e, va_up_ne _ _ e]
    by_cases e2 : k = u
    · rw [e2, va_up_self, va_up_self]
    · rw [va_up_ne _ _ e2, va_up_ne _ _ e2]; exact hg k hk
theorem c_flipX {u v : Nat} (hw : zWF h) (hu : u < 40) (hv : v < 40) (huv : u ≠ v) : zK (d + 1) m_X1_flip [.ref 22, .int (nI u), .int (nI v)] h (kV (fun h' => h' = h.wL 22 (flip (h.L 22) u v))) := by
  refine r_X1_flip_0 _ _ hw ⟨vi40 hu, vi40 hu, fun h3 q3 => ⟨vi40 hv, vi40 hv, fun h6 q6 => ?_⟩⟩
  rw [cl40 hu] at q3
  change h3 = h.wL 22 (va_up (h.L 22) u (h.L 22 u ^^^ one v)) at q3
  have x3 : h3.L 22 = va_up (h.L 22) u (h.L 22 u ^^^ one v) := by rw [q3, AH.wL_L]
  rw [cl40 hv, x3, va_up_ne _ _ (fun q => huv q.symm)] at q6
  have q6 : h6 = h3.sL 22 v (h.L 22 v ^^^ one u) := q6
  refine mk_kV (wf_L q6 (wf_L q3 hw)) ?_
  rw [q6, q3, wL_sL]
  rfl
end FEWEST
