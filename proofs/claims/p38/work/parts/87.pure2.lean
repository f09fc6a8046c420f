/-! fours are no more than rings -/
theorem sm_if (p : Nat → Bool) (c : Nat) : ∀ n, fb_sm (fun k => if p k = true then c else 0) n = fb_ct p n * c
  | 0 => (Nat.zero_mul c).symm
  | n + 1 => by
    rw [fb_sm_succ, fb_ct_succ, sm_if p c n]
    by_cases q : p n = true
    · rw [if_pos q, if_pos q, Nat.add_mul, Nat.one_mul]
    · rw [if_neg q, if_neg q]; rfl
theorem fo_c2 {f : Nat → Int64} (hf : GF f) (b : Int64) : fo f b ≤ c2 (pc b) := by
  have h1 : fb_sm (fun w => if gb b w = true then pc (b &&& f w) else 0) 40 ≤ fb_sm (fun w => if gb b w = true then pc b - 1 else 0) 40 := fb_sm_le (fun w hw => by
    by_cases q : gb b w = true
    · rw [if_pos q, if_pos q]
      have : pc (b &&& f w) < pc b := pc_lt (fun i hi => by rw [gb_and, Bool.and_eq_true] at hi; exact hi.1) (show w < 64 by omega) q (by rw [gb_and, hf.2.1, Bool.and_false])
      omega
    · rw [if_neg q, if_neg q]; exact Nat.le_refl _)
  rw [sm_if] at h1
  have h2 : fb_ct (gb b) 40 ≤ pc b := fb_ct_mono _ (by decide)
  have h3 := Nat.mul_le_mul_right (pc b - 1) h2
  unfold fo c2
  exact Nat.div_le_div_right (Nat.le_trans h1 h3)
theorem fo_ring {f : Nat → Int64} (hf : GF f) : foA f ≤ rngA f := by
  unfold foA rngA
  refine Nat.div_le_div_right (fb_sm_le (fun u hu => ?_))
  have : fb_sm (fun v => if gb (f u) v = true then fo f (f u &&& f v) else 0) 40 ≤ rng f u := fb_sm_le (fun v hv => by
    by_cases q : gb (f u) v = true
    · have hne : v ≠ u := fun e => by rw [e, hf.2.1] at q; cases q
      rw [if_pos q, if_neg hne]
      exact fo_c2 hf _
    · rw [if_neg q]; exact Nat.zero_le _)
  show fb_sm _ 40 / 3 ≤ _
  omega
/-! heavy ones have many near them -/
def HI (s : NS) : Prop := s.E < s.sp ∧ ∀ v, v < 40 → gb s.hv v = true → bnd s.sp ≤ 2 * pc (s.f v)
theorem bl_ge (s : Nat) : ∀ n t, t ≤ bl s n t
  | 0, t => Nat.le_refl _
  | n + 1, t => by
    show t ≤ if s ≤ t * t then t else bl s n (t + 1)
    split
    · exact Nat.le_refl _
    · have := bl_ge s n (t + 1); omega
theorem bnd_1 (s : Nat) : 1 ≤ bnd s := bl_ge s 39 1
theorem bl_sq (s : Nat) : ∀ n t, s ≤ (t + n) * (t + n) → s ≤ bl s n t * bl s n t
  | 0, t, h => h
  | n + 1, t, h => by
    show s ≤ (if s ≤ t * t then t else bl s n (t + 1)) * (if s ≤ t * t then t else bl s n (t + 1))
    split
    · next q => exact q
    · exact bl_sq s n (t + 1) (by rw [show t + 1 + n = t + (n + 1) by omega]; exact h)
theorem bnd_sq {s : Nat} (h : s ≤ 1600) : s ≤ bnd s * bnd s := bl_sq s 39 1 h
def hp (s : NS) (v : Nat) : Prop := gb s.hv v = true → bnd s.sp ≤ 2 * pc (s.f v)
theorem look_hp (s : NS) {a : Nat} (ha : a < 40) : hp (look s a) a := by
  intro h
  unfold look at h ⊢
  by_cases z : lkP s.f s.hv s.sp a = true
  · rw [if_pos z] at h ⊢
    have h : gb (s.hv ^^^ one a) a = true := h
    show bnd s.sp ≤ 2 * pc (s.f a)
    rw [gb_xor, gb_one (by omega), decide_eq_true rfl] at h
    have h0 : gb s.hv a = false := by
      cases q : gb s.hv a with
      | false => rfl
      | true => rw [q] at h; cases h
    unfold lkP at z
    rw [if_neg (by rw [h0]; decide), decide_eq_true_iff] at z
    omega
  · rw [if_neg z] at h ⊢
    unfold lkP at z
    rw [if_pos h, decide_eq_true_iff] at z
    omega
theorem look_ho (s : NS) {a v : Nat} (ha : a < 40) (hv : v ≠ a) (h : hp s v) : hp (look s a) v := by
  intro q
  unfold look at q ⊢
  by_cases z : lkP s.f s.hv s.sp a = true
  · rw [if_pos z] at q ⊢
    have q : gb (s.hv ^^^ one a) v = true := q
    rw [gb_xor, gb_one (by omega), decide_eq_false hv, Bool.xor_false] at q
    exact h q
  · rw [if_neg z] at q ⊢
    exact h q
theorem look2_hp (s : NS) {a b : Nat} (ha : a < 40) (hb : b < 40) (h : ∀ v, v < 40 → v ≠ a → v ≠ b → hp s v) : ∀ v, v < 40 → hp (look (look s (min a b)) (max a b)) v := by
  intro v hv
  by_cases e1 : v = max a b
  · subst e1; exact look_hp _ (by omega)
  · refine look_ho _ (by omega) e1 ?_
    by_cases e2 : v = min a b
    · subst e2; exact look_hp _ (by omega)
    · exact look_ho _ (by omega) e2 (h v hv (by omega) (by omega))
theorem reb_hp (s : NS) (sp v : Nat) : hp (rebS s sp) v := by
  intro h
  have h : gb (mk (fun v => decide (bnd sp ≤ pc (s.f v))) 40) v = true := h
  rw [gb_mk _ _ _ (by decide), Bool.and_eq_true, decide_eq_true_iff, decide_eq_true_iff] at h
  show bnd sp ≤ 2 * pc (s.f v)
  omega
theorem HI_come {s : NS} {u v : Nat} {x : Int32} (h : HI s) (hs : 1 ≤ s.sp) (hu : u < 40) (hv : v < 40) : HI (comeS s u v x) := by
  obtain ⟨h1, h2⟩ := h
  unfold comeS
  by_cases z : s.E + 1 = s.sp
  · rw [if_pos z]
    exact ⟨by show s.E + 1 < s.sp * 2; omega, fun w _ => reb_hp _ _ w⟩
  · rw [if_neg z]
    refine ⟨?_, fun w hw => look2_hp _ hu hv (fun k hk k1 k2 q => ?_) w hw⟩
    · obtain ⟨a1, a2, a3, a4, -⟩ := look_f (ns (flip s.f u v) (va_up s.w (pr u v) x) (s.E + 1) s.sp s.hv s.mv s.cr s.rb (s.ch + 1)) (min u v)
      obtain ⟨b1, b2, b3, b4, -⟩ := look_f (look (ns (flip s.f u v) (va_up s.w (pr u v) x) (s.E + 1) s.sp s.hv s.mv s.cr s.rb (s.ch + 1)) (min u v)) (max u v)
      rw [b3, a3, b4, a4]
      show s.E + 1 < s.sp
      omega
    · show bnd s.sp ≤ 2 * pc (flip s.f u v k)
      rw [flip_o k1 k2]
      exact h2 k hk q
theorem HI_go {s : NS} {u v : Nat} (h : HI s) (hs : 1 ≤ s.sp) (hu : u < 40) (hv : v < 40) : HI (goS s u v) := by
  obtain ⟨h1, h2⟩ := h
  unfold goS
  by_cases z : s.E - 1 < s.sp / 4
  · rw [if_pos z]
    exact ⟨by show s.E - 1 < max 1 (s.sp / 2 - 1); omega, fun w _ => reb_hp _ _ w⟩
  · rw [if_neg z]
    refine ⟨?_, fun w hw => look2_hp _ hu hv (fun k hk k1 k2 q => ?_) w hw⟩
    · obtain ⟨a1, a2, a3, a4, -⟩ := look_f (ns (flip s.f u v) s.w (s.E - 1) s.sp s.hv s.mv s.cr s.rb (s.ch + 1)) (min u v)
      obtain ⟨b1, b2, b3, b4, -⟩ := look_f (look (ns (flip s.f u v) s.w (s.E - 1) s.sp s.hv s.mv s.cr s.rb (s.ch + 1)) (min u v)) (max u v)
      rw [b3, a3, b4, a4]
      show s.E - 1 < s.sp
      omega
    · show bnd s.sp ≤ 2 * pc (flip s.f u v k)
      rw [flip_o k1 k2]
      exact h2 k hk q
/-! a vertex has no more near it than there are edges -/
theorem deg_le {u : Nat} (hu : u < 40) : ∀ n (f : Nat → Int64), GF f → ecn f = n → pc (f u) ≤ n := by
  intro n
  induction n with
  | zero =>
    intro f hf he
    by_cases z : f u = 0
    · rw [z, pc_0]; exact Nat.le_refl _
    · obtain ⟨v, hv⟩ := ne0_iff.mp z
      have hne : u ≠ v := fun e => by rw [← e, hf.2.1] at hv; cases hv
      have hv4 := (hf.2.2 u v hv).2
      have hE : isE f (pr u v) = true := by rw [isE_pr hf.1 hu hv4 hne]; exact hv
      have : 0 < ecn f := fb_ct_pos.mpr ⟨pr u v, pr_lt hu hv4, hE⟩
      omega
  | succ n ih =>
    intro f hf he
    by_cases z : f u = 0
    · rw [z, pc_0]; exact Nat.zero_le _
    · obtain ⟨v, hv⟩ := ne0_iff.mp z
      have hne : u ≠ v := fun e => by rw [← e, hf.2.1] at hv; cases hv
      have hv4 := (hf.2.2 u v hv).2
      have h1 := ec_flip hf.1 hu hv4 hne
      rw [hv, if_pos rfl, if_pos rfl] at h1
      have h2 := ih (flip f u v) (GF_flip hf hne hu hv4) (by unfold ecn at he ⊢; omega)
      have h3 := pc_rm (show v < 64 by omega) hv
      rw [andn_xor (by omega) hv, ← flip_u hne] at h3
      omega
