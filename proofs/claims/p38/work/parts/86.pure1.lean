/-! triangles grow and shrink by what two ends share -/
theorem ct64 {p : Nat → Bool} (h : ∀ k, 40 ≤ k → p k = false) : fb_ct p 64 = fb_ct p 40 := by
  rw [show (64 : Nat) = 40 + 24 from rfl, fb_ct_split, fb_ct_zero.mpr (fun k _ => h (40 + k) (by omega)), Nat.add_zero]
theorem pc_set {A S : Int64} {v : Nat} (hv : v < 64) (hS : gb S v = false) : pc (A &&& (S ^^^ one v)) = pc (A &&& S) + (if gb A v = true then 1 else 0) := by
  have e := fb_ct_upd (gb (A &&& S)) (gb A v) hv
  have z : gb (A &&& S) v = false := by rw [gb_and, hS, Bool.and_false]
  rw [z] at e
  have e1 : pc (A &&& (S ^^^ one v)) = fb_ct (fun k => if k = v then gb A v else gb (A &&& S) k) 64 := fb_ct_cong (fun k hk => by
    rw [gb_and, gb_xor, gb_one hv, gb_and]
    by_cases q : k = v
    · subst q
      rw [if_pos rfl, decide_eq_true rfl, hS]
      cases gb A k <;> rfl
    · rw [if_neg q, decide_eq_false q, Bool.xor_false])
  rw [e1]
  exact e
theorem smct (p : Nat → Bool) : ∀ n, fb_sm (fun k => if p k = true then 1 else 0) n = fb_ct p n
  | 0 => rfl
  | n + 1 => by rw [fb_sm_succ, fb_ct_succ, smct p n]
section TRI
variable {f : Nat → Int64} {u v : Nat}
/-- a vertex's own share in the new triangles -/
def dl (f : Nat → Int64) (u v x : Nat) : Nat := if x = v then pc (f u &&& f v) else if x = u then pc (f u &&& f v) else if (gb (f x) u && gb (f x) v) = true then 1 else 0
theorem pc40 (hf : GF f) (x y : Nat) : pc (f x &&& f y) = fb_ct (fun k => gb (f x) k && gb (f y) k) 40 := by
  unfold pc
  rw [ct64 (p := gb (f x &&& f y)) (fun k hk => ?_)]
  · exact fb_ct_cong (fun k _ => gb_and _ _ _)
  · rw [gb_and]
    cases q : gb (f x) k with
    | false => rfl
    | true => exact absurd (hf.2.2 x k q).2 (by omega)
def tm (f : Nat → Int64) (x y : Nat) : Nat := if gb (f x) y = true then pc (f x &&& f y) else 0
theorem flip_u (huv : u ≠ v) : flip f u v u = f u ^^^ one v := by
  unfold flip
  rw [va_up_ne _ _ huv, va_up_self]
theorem flip_v : flip f u v v = f v ^^^ one u := by
  unfold flip
  rw [va_up_self]
theorem sp_u (hf : GF f) (hu : u < 40) (hv : v < 40) (huv : u ≠ v) (hg : gb (f u) v = false) : spT (flip f u v) u = spT f u + 2 * pc (f u &&& f v) := by
  have e1 : spT (flip f u v) u = fb_sm (fun y => if y = v then pc (f u &&& f v) else (tm f u y + (if (gb (f u) y && gb (f v) y) = true then 1 else 0))) 40 := fb_sm_cong (fun y hy => by
    by_cases q : y = v
    · subst q
      rw [if_pos rfl, flip_and hf hu hv huv, if_pos]
      rw [gb_flip huv (by omega) (by omega), hg, decide_eq_true (Or.inl ⟨rfl, rfl⟩)]; rfl
    · rw [if_neg q, gb_flip_u huv (by omega) q]
      unfold tm
      cases hy2 : gb (f u) y with
      | false => rfl
      | true =>
        have hyu : y ≠ u := fun e => by rw [e, hf.2.1] at hy2; cases hy2
        rw [if_pos rfl, if_pos rfl, flip_o hyu q, flip_u huv, and_comm64, pc_set (by omega) hg, and_comm64 (f y), Bool.true_and, hf.1 y v])
  have e2 := fb_sm_upd (fun y => tm f u y + (if (gb (f u) y && gb (f v) y) = true then 1 else 0)) (pc (f u &&& f v)) hv
  have z : tm f u v + (if (gb (f u) v && gb (f v) v) = true then 1 else 0) = 0 := by
    unfold tm
    rw [hg]
    rfl
  rw [z, fb_sm_add (tm f u), smct, ← pc40 hf] at e2
  rw [e1]
  show _ = fb_sm (tm f u) 40 + _
  omega
theorem sp_x (hf : GF f) (hu : u < 40) (hv : v < 40) (huv : u ≠ v) (hg : gb (f u) v = false) {x : Nat} (h1 : x ≠ u) (h2 : x ≠ v) : spT (flip f u v) x = spT f x + 2 * (if (gb (f x) u && gb (f x) v) = true then 1 else 0) := by
  have hg2 : gb (f v) u = false := by rw [hf.1]; exact hg
  have e1 : spT (flip f u v) x = fb_sm (fun y => if y = v then tm f x v + (if (gb (f x) u && gb (f x) v) = true then 1 else 0) else if y = u then tm f x u + (if (gb (f x) u && gb (f x) v) = true then 1 else 0) else tm f x y) 40 := fb_sm_cong (fun y hy => by
    rw [flip_o h1 h2]
    by_cases q : y = v
    · subst q
      rw [if_pos rfl, flip_v]
      unfold tm
      cases hy2 : gb (f x) y with
      | false => rw [Bool.and_false]; rfl
      | true => rw [if_pos rfl, if_pos rfl, pc_set (by omega) hg2, Bool.and_true]
    · rw [if_neg q]
      show _ = if y = u then _ else _
      by_cases q2 : y = u
      · subst q2
        rw [if_pos rfl, flip_u huv]
        unfold tm
        cases hy2 : gb (f x) y with
        | false => rw [Bool.false_and]; rfl
        | true => rw [if_pos rfl, if_pos rfl, pc_set (by omega) hg, Bool.true_and]
      · rw [if_neg q2, flip_o q2 q]
        rfl)
  have e2 := fb_sm_upd (fun y => if y = u then tm f x u + (if (gb (f x) u && gb (f x) v) = true then 1 else 0) else tm f x y) (tm f x v + (if (gb (f x) u && gb (f x) v) = true then 1 else 0)) hv
  have e3 := fb_sm_upd (tm f x) (tm f x u + (if (gb (f x) u && gb (f x) v) = true then 1 else 0)) hu
  have z : (if v = u then tm f x u + (if (gb (f x) u && gb (f x) v) = true then 1 else 0) else tm f x v) = tm f x v := if_neg (fun q => huv q.symm)
  rw [z] at e2
  rw [e1]
  show _ = fb_sm (tm f x) 40 + _
  omega
theorem sp_d (hf : GF f) (hu : u < 40) (hv : v < 40) (huv : u ≠ v) (hg : gb (f u) v = false) (x : Nat) : spT (flip f u v) x = spT f x + 2 * dl f u v x := by
  unfold dl
  by_cases h2 : x = v
  · subst h2
    rw [if_pos rfl, flip_comm huv, sp_u hf hv hu (fun q => huv q.symm) (by rw [hf.1]; exact hg), and_comm64]
  · rw [if_neg h2]
    by_cases h1 : x = u
    · subst h1
      rw [if_pos rfl, sp_u hf hu hv huv hg]
    · rw [if_neg h1, sp_x hf hu hv huv hg h1 h2]
theorem dl_sum (hf : GF f) (hu : u < 40) (hv : v < 40) (huv : u ≠ v) : fb_sm (dl f u v) 40 = 3 * pc (f u &&& f v) := by
  have e2 := fb_sm_upd (fun x => if x = u then pc (f u &&& f v) else if (gb (f x) u && gb (f x) v) = true then 1 else 0) (pc (f u &&& f v)) hv
  have e3 := fb_sm_upd (fun x => if (gb (f x) u && gb (f x) v) = true then 1 else 0) (pc (f u &&& f v)) hu
  have z2 : (if v = u then pc (f u &&& f v) else if (gb (f v) u && gb (f v) v) = true then 1 else 0) = 0 := by
    rw [if_neg (fun q => huv q.symm)]
    show (if (gb (f v) u && gb (f v) v) = true then 1 else 0) = 0
    rw [hf.2.1 v, Bool.and_false]; rfl
  have z3 : (if (gb (f u) u && gb (f u) v) = true then 1 else 0) = 0 := by rw [hf.2.1 u]; rfl
  rw [z2] at e2
  rw [z3, smct] at e3
  have e4 : fb_ct (fun x => gb (f x) u && gb (f x) v) 40 = pc (f u &&& f v) := by
    rw [pc40 hf]
    exact fb_ct_cong (fun k _ => by rw [hf.1 k u, hf.1 k v])
  rw [e4] at e3
  show fb_sm (fun x => if x = v then pc (f u &&& f v) else if x = u then pc (f u &&& f v) else if (gb (f x) u && gb (f x) v) = true then 1 else 0) 40 = _
  omega
theorem tri_come (hf : GF f) (hu : u < 40) (hv : v < 40) (huv : u ≠ v) (hg : gb (f u) v = false) : triA (flip f u v) = triA f + pc (f u &&& f v) := by
  have e1 : fb_sm (tri (flip f u v)) 40 = fb_sm (fun x => tri f x + dl f u v x) 40 := fb_sm_cong (fun x _ => by
    unfold tri
    rw [sp_d hf hu hv huv hg x]
    omega)
  unfold triA
  rw [e1, fb_sm_add, dl_sum hf hu hv huv]
  omega
theorem tri_go (hf : GF f) (hu : u < 40) (hv : v < 40) (huv : u ≠ v) (hg : gb (f u) v = true) : triA (flip f u v) + pc (f u &&& f v) = triA f := by
  have h1 := tri_come (f := flip f u v) (GF_flip hf huv hu hv) hu hv huv (by
    rw [gb_flip huv (by omega) (by omega), hg, decide_eq_true (Or.inl ⟨rfl, rfl⟩)]; rfl)
  rw [flip_flip huv (by omega) (by omega), flip_and hf hu hv huv] at h1
  exact h1.symm
end TRI
/-! what breaks all triangles -/
theorem ms_pos {g : Nat → Int64} : ∀ {n b}, ms g n = some b → 0 < sup g b
  | 0, b, h => by cases h
  | n + 1, b, h => by
    rw [ms_s] at h
    by_cases z : isE g n = true ∧ mo g (ms g n) < sup g n
    · rw [if_pos z] at h
      cases h
      omega
    · rw [if_neg z] at h
      exact ms_pos h
theorem tri_e {g : Nat → Int64} (hf : GF g) {b : Nat} (hb : b < 1600) (hE : isE g b = true) : triA (flip g (b / 40) (b % 40)) + sup g b = triA g := by
  obtain ⟨h1, h2⟩ := isE_b hE
  exact tri_go hf (by omega) (by omega) (by omega) h2
theorem brk_le : ∀ n (g : Nat → Int64) c f, GF g → (brkN n g c f).1 ≤ c + triA g
  | 0, g, c, f, _ => Nat.le_add_right _ _
  | n + 1, g, c, f, hf => by
    show (match ms g 1600 with | none => (c, f) | some e => brkN n (flip g (e / 40) (e % 40)) (c + 1) (if c = 0 then e else f)).1 ≤ _
    cases hm : ms g 1600 with
    | none => exact Nat.le_add_right _ _
    | some e =>
      obtain ⟨h1, h2⟩ := ms_some hm
      obtain ⟨h3, h4⟩ := isE_b h2
      have h5 := tri_e hf h1 h2
      have h6 := ms_pos hm
      have := brk_le n (flip g (e / 40) (e % 40)) (c + 1) (if c = 0 then e else f) (GF_flip hf (by omega) (by omega) (by omega))
      show (brkN n (flip g (e / 40) (e % 40)) (c + 1) (if c = 0 then e else f)).1 ≤ _
      omega
/-! no triangle at all -/
theorem fF_none {g : Nat → Int64} : ∀ {n s}, fF g n s = none → ∀ i, s ≤ i → i < s + n → ¬ (isE g i = true ∧ cm g i ≠ 0)
  | 0, s, _, i, h1, h2 => by omega
  | n + 1, s, h, i, h1, h2 => by
    have hs : (if isE g s = true ∧ cm g s ≠ 0 then some s else fF g n (s + 1)) = none := h
    by_cases z : isE g s = true ∧ cm g s ≠ 0
    · rw [if_pos z] at hs; cases hs
    · rw [if_neg z] at hs
      by_cases y : i = s
      · rw [y]; exact z
      · exact fF_none hs i (by omega) (by omega)
theorem pc_ne0 {x : Int64} (h : x ≠ 0) : 0 < pc x := by
  obtain ⟨i, hi, hb⟩ := ne0_gb h
  exact fb_ct_pos.mpr ⟨i, hi, hb⟩
theorem tri_0 {g : Nat → Int64} (hf : GF g) : triA g = 0 ↔ fF g 1600 0 = none := by
  constructor
  · intro h
    cases hF : fF g 1600 0 with
    | none => rfl
    | some e =>
      obtain ⟨_, h2, h3, h4, _⟩ := fF_some hF
      have h5 := tri_e hf (by omega) h3
      have h6 : 0 < sup g e := pc_ne0 h4
      omega
  · intro h
    have h0 : fb_sm (tri g) 40 = 0 := by
      have : ∀ k, k < 40 → tri g k ≤ 0 := fun k hk => by
        have e : spT g k = 0 := by
          have : ∀ y, y < 40 → (if gb (g k) y = true then pc (g k &&& g y) else 0) ≤ 0 := fun y hy => by
            by_cases q : gb (g k) y = true
            · rw [if_pos q]
              have hne : k ≠ y := fun e => by rw [e, hf.2.1] at q; cases q
              have hz := fF_none h (pr k y) (Nat.zero_le _) (by have := pr_lt hk hy; omega)
              have hE : isE g (pr k y) = true := by rw [isE_pr hf.1 hk hy hne]; exact q
              have hc : cm g (pr k y) = g k &&& g y := by
                unfold cm
                rw [(pr_div hk hy).1, (pr_div hk hy).2]
                rcases Nat.lt_or_gt_of_ne hne with w | w
                · rw [Nat.min_eq_left (by omega), Nat.max_eq_right (by omega)]
                · rw [Nat.min_eq_right (by omega), Nat.max_eq_left (by omega), and_comm64]
              have h0 : g k &&& g y = 0 := by
                rw [← hc]
                exact Classical.byContradiction (fun w => hz ⟨hE, w⟩)
              rw [h0, pc_0]
              exact Nat.le_refl _
            · rw [if_neg q]
              exact Nat.le_refl _
          have := fb_sm_bound (n := 40) (c := 0) this
          show fb_sm _ 40 = 0
          omega
        unfold tri
        rw [e]
        exact Nat.le_refl _
      have := fb_sm_bound (n := 40) (c := 0) this
      omega
    unfold triA
    rw [h0]
theorem fw_rng (g : Nat → Int64) : ∀ n k, n + k ≤ 5 → fwN g n k = -5 ∨ ∃ j, k ≤ j ∧ j < 5 ∧ fwN g n k = nI j
  | 0, _, _ => Or.inl rfl
  | n + 1, k, h => by
    show (if en k g = true then nI k else fwN g n (k + 1)) = -5 ∨ _
    by_cases z : en k g = true
    · rw [if_pos z]
      refine Or.inr ⟨k, Nat.le_refl _, by omega, ?_⟩
      show (if en k g = true then nI k else fwN g n (k + 1)) = _
      rw [if_pos z]
    · rw [if_neg z]
      rcases fw_rng g n (k + 1) (by omega) with q | ⟨j, q1, q2, q3⟩
      · exact Or.inl q
      · refine Or.inr ⟨j, by omega, q2, ?_⟩
        show (if en k g = true then nI k else fwN g n (k + 1)) = _
        rw [if_neg z]
        exact q3
theorem fw_0 {g : Nat → Int64} (hf : GF g) : fwN g 5 0 = 0 ↔ triA g = 0 := by
  rw [tri_0 hf]
  have e : fwN g 5 0 = if (fF g 1600 0).isNone = true then nI 0 else fwN g 4 1 := rfl
  rw [e]
  cases hF : fF g 1600 0 with
  | none => exact ⟨fun _ => rfl, fun _ => rfl⟩
  | some b =>
    refine ⟨fun q => ?_, fun q => by cases q⟩
    have q : fwN g 4 1 = 0 := q
    rcases fw_rng g 4 1 (Nat.le_refl _) with z | ⟨j, z1, z2, z3⟩
    · rw [z] at q; exact absurd q (by decide)
    · rw [z3, nI_eq0 (by omega)] at q
      omega
