/-! what an EDGE's going away does to SUPPORTS -/
def dc (B : Int64) (u v e : Nat) : Nat → Nat
  | 0 => 0
  | i + 1 => dc B u v e i + (if gb B i = true then (if e = pr u i then 1 else 0) + (if e = pr v i then 1 else 0) else 0)
theorem dc_s (B : Int64) (u v e i : Nat) : dc B u v e (i + 1) = dc B u v e i + (if gb B i = true then (if e = pr u i then 1 else 0) + (if e = pr v i then 1 else 0) else 0) := rfl
theorem dc_comm (B : Int64) (u v e : Nat) : ∀ i, dc B u v e i = dc B v u e i
  | 0 => rfl
  | i + 1 => by
    rw [dc_s, dc_s, dc_comm B u v e i, Nat.add_comm (if e = pr u i then 1 else 0)]
theorem gb_flip_u {g : Nat → Int64} {u v y : Nat} (huv : u ≠ v) (hv : v < 64) (hy : y ≠ v) : gb (flip g u v u) y = gb (g u) y := by
  unfold flip
  rw [va_up_ne _ _ huv, va_up_self, gb_xor, gb_one hv, decide_eq_false hy, Bool.xor_false]
theorem gb_flip_uv {g : Nat → Int64} {u v : Nat} (huv : u ≠ v) (hv : v < 64) (h : gb (g u) v = true) : gb (flip g u v u) v = false := by
  unfold flip
  rw [va_up_ne _ _ huv, va_up_self, gb_xor, gb_one hv, decide_eq_true rfl, h]
  rfl
theorem flip_o {g : Nat → Int64} {u v y : Nat} (h1 : y ≠ u) (h2 : y ≠ v) : flip g u v y = g y := by
  unfold flip
  rw [va_up_ne _ _ h2, va_up_ne _ _ h1]
theorem dc_u {B : Int64} {u v y : Nat} (hu : u < 40) (hv : v < 40) (hy : y < 40) (huv : u ≠ v) (hyv : y ≠ v) : ∀ i, i ≤ 40 → dc B u v (pr u y) i = if y < i ∧ gb B y = true then 1 else 0
  | 0, _ => by rw [if_neg (fun q => absurd q.1 (Nat.not_lt_zero _))]; rfl
  | i + 1, hi => by
    rw [dc_s, dc_u hu hv hy huv hyv i (by omega)]
    have n2 : ¬ pr u y = pr v i := fun q => by
      rcases pr_inj hu hy hv (by omega) q with ⟨a, b⟩ | ⟨a, b⟩
      · exact huv a
      · exact hyv b
    by_cases e : y = i
    · subst e
      rw [if_neg (fun q => absurd q.1 (Nat.lt_irrefl _)), if_pos rfl, if_neg n2, Nat.zero_add]
      by_cases q : gb B y = true
      · rw [if_pos q, if_pos ⟨Nat.lt_succ_self _, q⟩]
      · rw [if_neg q, if_neg (fun k => q k.2)]
    · have n1 : ¬ pr u y = pr u i := fun q => by
        rcases pr_inj hu hy hu (by omega) q with ⟨a, b⟩ | ⟨a, b⟩
        · exact e b
        · omega
      rw [if_neg n1, if_neg n2]
      have z : (if gb B i = true then 0 + 0 else 0) = 0 := by split <;> rfl
      rw [z, Nat.add_zero]
      by_cases q : y < i ∧ gb B y = true
      · rw [if_pos q, if_pos ⟨by omega, q.2⟩]
      · rw [if_neg q, if_neg (fun k => q ⟨by omega, k.2⟩)]
theorem dc_o {B : Int64} {u v x y : Nat} (hu : u < 40) (hv : v < 40) (hx : x < 40) (hy : y < 40) (h1 : x ≠ u) (h2 : x ≠ v) (h3 : y ≠ u) (h4 : y ≠ v) : ∀ i, i ≤ 40 → dc B u v (pr x y) i = 0
  | 0, _ => rfl
  | i + 1, hi => by
    have n1 : ¬ pr x y = pr u i := fun q => by
      rcases pr_inj hx hy hu (by omega) q with ⟨a, b⟩ | ⟨a, b⟩
      · exact h1 a
      · exact h3 b
    have n2 : ¬ pr x y = pr v i := fun q => by
      rcases pr_inj hx hy hv (by omega) q with ⟨a, b⟩ | ⟨a, b⟩
      · exact h2 a
      · exact h4 b
    rw [dc_s, dc_o hu hv hx hy h1 h2 h3 h4 i (by omega), if_neg n1, if_neg n2]
    split <;> rfl
theorem sup_u {g : Nat → Int64} (hg : GF g) {u v y : Nat} (hu : u < 40) (hv : v < 40) (hy : y < 40) (huv : u ≠ v) (hyv : y ≠ v) (hyu : y ≠ u) (he : gb (g u) v = true) (hq : gb (g u) y = true) : pc (flip g u v u &&& flip g u v y) + dc (flip g u v u &&& flip g u v v) u v (pr u y) 40 = pc (g u &&& g y) := by
  rw [dc_u hu hv hy huv hyv 40 (Nat.le_refl _), flip_o hyu hyv]
  have e1 : pc (flip g u v u &&& g y) = fb_ct (fun k => if k = v then false else gb (g u &&& g y) k) 64 := fb_ct_cong (fun k hk => by
    by_cases z : k = v
    · subst z
      rw [if_pos rfl, gb_and, gb_flip_uv huv (by omega) he, Bool.false_and]
    · rw [if_neg z, gb_and, gb_flip_u huv (by omega) z, gb_and])
  have e2 := fb_ct_upd (gb (g u &&& g y)) false (i := v) (n := 64) (by omega)
  have e3 : gb (g u &&& g y) v = gb (g v) y := by rw [gb_and, he, Bool.true_and, hg.1]
  have e4 : gb (flip g u v u &&& flip g u v v) y = gb (g v) y := by
    rw [gb_and, gb_flip_u huv (by omega) hyv, hq, Bool.true_and, flip_comm huv, gb_flip_u (fun q => huv q.symm) (by omega) hyu]
  have e5 : (if (false : Bool) = true then 1 else 0) = 0 := rfl
  rw [e3, e5, Nat.add_zero] at e2
  rw [e1, e4]
  show _ = fb_ct (gb (g u &&& g y)) 64
  rw [← e2]
  congr 1
  by_cases q : gb (g v) y = true
  · rw [if_pos q, if_pos ⟨hy, q⟩]
  · rw [if_neg q, if_neg (fun k => q k.2)]
theorem and_comm64 (x y : Int64) : x &&& y = y &&& x := gb_ext (fun i _ => by rw [gb_and, gb_and, Bool.and_comm])
theorem sup_dc {g : Nat → Int64} (hg : GF g) {b : Nat} (hb : b < 1600) (hE : isE g b = true) {e : Nat} (he : e < 1600) (hE2 : isE (flip g (b / 40) (b % 40)) e = true) : sup (flip g (b / 40) (b % 40)) e + dc (flip g (b / 40) (b % 40) (b / 40) &&& flip g (b / 40) (b % 40) (b % 40)) (b / 40) (b % 40) e 40 = sup g e := by
  rw [isE_step hg hb hE he, Bool.and_eq_true, decide_eq_true_iff] at hE2
  obtain ⟨hE2, hne⟩ := hE2
  obtain ⟨h1, h2⟩ := isE_b hE
  obtain ⟨h3, h4⟩ := isE_b hE2
  have hpe : e = pr (e / 40) (e % 40) := by unfold pr; omega
  have hu : b / 40 < 40 := by omega
  have hv : b % 40 < 40 := by omega
  have hx : e / 40 < 40 := by omega
  have hy : e % 40 < 40 := by omega
  have hn : ¬ (e / 40 = b / 40 ∧ e % 40 = b % 40) := by omega
  unfold sup
  have key : ∀ u v x y, u < 40 → v < 40 → x < 40 → y < 40 → u < v → x < y → gb (g u) v = true → gb (g x) y = true → ¬ (x = u ∧ y = v) → pc (flip g u v x &&& flip g u v y) + dc (flip g u v u &&& flip g u v v) u v (pr x y) 40 = pc (g x &&& g y) := by
    intro u v x y hu hv hx hy h1 h3 h2 h4 hn
    have huv : u ≠ v := by omega
    by_cases a1 : x = u
    · subst a1
      exact sup_u hg hu hv hy huv (fun q => hn ⟨rfl, q⟩) (by omega) h2 h4
    · by_cases a2 : x = v
      · subst a2
        have := sup_u hg hv hu hy (fun q => huv q.symm) (by omega) (by omega) (by rw [hg.1]; exact h2) h4
        rw [flip_comm (fun q => huv q.symm), dc_comm, and_comm64 (flip g u x x) (flip g u x u)] at this
        exact this
      · by_cases a3 : y = u
        · subst a3
          have := sup_u hg hu hv hx huv a2 a1 h2 (by rw [hg.1]; exact h4)
          rw [pr_comm, and_comm64 (flip g y v y) (flip g y v x), and_comm64 (g y) (g x)] at this
          exact this
        · by_cases a4 : y = v
          · subst a4
            have := sup_u hg hv hu hx (fun q => huv q.symm) a1 a2 (by rw [hg.1]; exact h2) (by rw [hg.1]; exact h4)
            rw [flip_comm (fun q => huv q.symm), dc_comm, pr_comm, and_comm64 (flip g u y y) (flip g u y u), and_comm64 (flip g u y y) (flip g u y x), and_comm64 (g y) (g x)] at this
            exact this
          · rw [dc_o hu hv hx hy a1 a2 a3 a4 40 (Nat.le_refl _), flip_o a1 a2, flip_o a3 a4]
            rfl
  have := key (b / 40) (b % 40) (e / 40) (e % 40) hu hv hx hy h1 h3 h2 h4 hn
  rw [← hpe] at this
  exact this
