/-! peeling, as a row of edges -/
def lsQ (g : Nat → Int64) : Option Nat → Nat → Bool
  | none, _ => true
  | some b, s => decide (s < sup g b)
def ls (g : Nat → Int64) : Nat → Option Nat
  | 0 => none
  | e + 1 => if isE g e = true ∧ lsQ g (ls g e) (sup g e) = true then some e else ls g e
theorem ls_s (g : Nat → Int64) (e : Nat) : ls g (e + 1) = if isE g e = true ∧ lsQ g (ls g e) (sup g e) = true then some e else ls g e := rfl
def lxe (g : Nat → Int64) (b e : Nat) : Prop := sup g b < sup g e ∨ (sup g b = sup g e ∧ b ≤ e)
theorem ls_none {g : Nat → Int64} : ∀ {n}, ls g n = none → ∀ e, e < n → isE g e = false
  | 0, _, e, he => absurd he (Nat.not_lt_zero _)
  | n + 1, h, e, he => by
    rw [ls_s] at h
    by_cases z : isE g n = true ∧ lsQ g (ls g n) (sup g n) = true
    · rw [if_pos z] at h; cases h
    · rw [if_neg z] at h
      by_cases y : e = n
      · subst y
        cases hz : isE g e with
        | false => rfl
        | true => exact absurd ⟨hz, by rw [h]; rfl⟩ z
      · exact ls_none h e (by omega)
theorem ls_some {g : Nat → Int64} : ∀ {n b}, ls g n = some b → b < n ∧ isE g b = true ∧ ∀ e, e < n → isE g e = true → lxe g b e
  | 0, b, h => by cases h
  | n + 1, b, h => by
    rw [ls_s] at h
    by_cases z : isE g n = true ∧ lsQ g (ls g n) (sup g n) = true
    · rw [if_pos z] at h
      cases h
      refine ⟨Nat.lt_succ_self _, z.1, fun e he hE => ?_⟩
      by_cases y : e = n
      · subst y; exact Or.inr ⟨rfl, Nat.le_refl _⟩
      · cases ho : ls g n with
        | none => rw [ls_none ho e (by omega)] at hE; cases hE
        | some b' =>
          have h3 := (ls_some ho).2.2 e (by omega) hE
          have h4 := z.2
          rw [ho] at h4
          have h4 : sup g n < sup g b' := of_decide_eq_true h4
          rcases h3 with q | ⟨q, _⟩
          · exact Or.inl (by omega)
          · exact Or.inl (by omega)
    · rw [if_neg z] at h
      obtain ⟨h1, h2, h3⟩ := ls_some h
      refine ⟨Nat.lt_succ_of_lt h1, h2, fun e he hE => ?_⟩
      by_cases y : e = n
      · subst y
        have : ¬ sup g e < sup g b := fun q => z ⟨hE, by rw [h]; exact decide_eq_true q⟩
        rcases Nat.lt_or_ge (sup g b) (sup g e) with q | q
        · exact Or.inl q
        · exact Or.inr ⟨by omega, by omega⟩
      · exact h3 e (by omega) hE
def lst (g : Nat → Int64) : Nat := (ls g 1600).getD 0
def ecn (g : Nat → Int64) : Nat := fb_ct (isE g) 1600
theorem lst_ok {g : Nat → Int64} (h : 0 < ecn g) : ls g 1600 = some (lst g) ∧ lst g < 1600 ∧ isE g (lst g) = true ∧ ∀ e, e < 1600 → isE g e = true → lxe g (lst g) e := by
  cases ho : ls g 1600 with
  | none =>
    obtain ⟨k, hk, hE⟩ := fb_ct_pos.mp h
    rw [ls_none ho k hk] at hE; cases hE
  | some b =>
    have e : lst g = b := by unfold lst; rw [ho]; rfl
    rw [e]
    exact ⟨rfl, ls_some ho⟩
theorem lst_uq {g : Nat → Int64} {b : Nat} (hb : b < 1600) (hE : isE g b = true) (hl : ∀ e, e < 1600 → isE g e = true → lxe g b e) : b = lst g := by
  have hp : 0 < ecn g := fb_ct_pos.mpr ⟨b, hb, hE⟩
  obtain ⟨_, h1, h2, h3⟩ := lst_ok hp
  have a1 := hl _ h1 h2
  have a2 := h3 _ hb hE
  unfold lxe at a1 a2
  omega
def plG (f : Nat → Int64) : Nat → Nat → Int64
  | 0 => f
  | t + 1 => flip (plG f t) (lst (plG f t) / 40) (lst (plG f t) % 40)
def plE (f : Nat → Int64) (t : Nat) : Nat := lst (plG f t)
def plM (f : Nat → Int64) : Nat → Nat
  | 0 => 0
  | t + 1 => max (plM f t) (sup (plG f t) (plE f t))
theorem plG_s (f : Nat → Int64) (t : Nat) : plG f (t + 1) = flip (plG f t) (plE f t / 40) (plE f t % 40) := rfl
theorem plM_s (f : Nat → Int64) (t : Nat) : plM f (t + 1) = max (plM f t) (sup (plG f t) (plE f t)) := rfl
theorem plM_le (f : Nat → Int64) : ∀ t, plM f t ≤ 64
  | 0 => by show 0 ≤ 64; omega
  | t + 1 => by
    rw [plM_s]
    have h1 := plM_le f t
    have h2 := sup_le (plG f t) (plE f t)
    omega
section PL
variable {f : Nat → Int64}
theorem isE_step {g : Nat → Int64} (hg : GF g) {b : Nat} (hb : b < 1600) (hE : isE g b = true) {e : Nat} (he : e < 1600) : isE (flip g (b / 40) (b % 40)) e = (isE g e && decide (e ≠ b)) := by
  obtain ⟨h1, h2⟩ := isE_b hE
  rw [isE_flip hg.1 (by omega) (by omega) (by omega) e he]
  have hp : pr (b / 40) (b % 40) = b := by unfold pr; omega
  rw [hp, h2]
  by_cases z : e = b
  · rw [if_pos z, decide_eq_false (fun q => q z), Bool.and_false]; rfl
  · rw [if_neg z, decide_eq_true z, Bool.and_true]
theorem ecn_step {g : Nat → Int64} (hg : GF g) {b : Nat} (hb : b < 1600) (hE : isE g b = true) : ecn (flip g (b / 40) (b % 40)) + 1 = ecn g := by
  obtain ⟨h1, h2⟩ := isE_b hE
  have := ec_flip (f := g) hg.1 (u := b / 40) (v := b % 40) (by omega) (by omega) (by omega)
  rw [h2, if_pos rfl, if_pos rfl] at this
  unfold ecn
  omega
theorem pl_inv (hf : GF f) : ∀ t, t ≤ ecn f → GF (plG f t) ∧ ecn (plG f t) + t = ecn f
  | 0, _ => ⟨hf, Nat.add_zero (ecn f)⟩
  | t + 1, h => by
    obtain ⟨h1, h2⟩ := pl_inv hf t (by omega)
    obtain ⟨_, a1, a2, a3⟩ := lst_ok (g := plG f t) (by omega)
    obtain ⟨b1, b2⟩ := isE_b a2
    rw [plG_s]
    have h3 := ecn_step h1 a1 a2
    refine ⟨GF_flip h1 (u := plE f t / 40) (v := plE f t % 40) (Nat.ne_of_lt b1) ?_ ?_, ?_⟩
    · show lst (plG f t) / 40 < 40
      omega
    · show lst (plG f t) % 40 < 40
      omega
    · have h3 : ecn (flip (plG f t) (plE f t / 40) (plE f t % 40)) + 1 = ecn (plG f t) := h3
      omega
theorem plE_ok (hf : GF f) {t : Nat} (ht : t < ecn f) : plE f t < 1600 ∧ isE (plG f t) (plE f t) = true ∧ ∀ e, e < 1600 → isE (plG f t) e = true → lxe (plG f t) (plE f t) e := by
  have h2 := (pl_inv hf t (by omega)).2
  exact (lst_ok (g := plG f t) (by omega)).2
theorem plE_ls (hf : GF f) {t : Nat} (ht : t < ecn f) : ls (plG f t) 1600 = some (plE f t) := by
  have h2 := (pl_inv hf t (by omega)).2
  exact (lst_ok (g := plG f t) (by omega)).1
theorem pl_step (hf : GF f) {t e : Nat} (ht : t < ecn f) (he : e < 1600) : isE (plG f (t + 1)) e = (isE (plG f t) e && decide (e ≠ plE f t)) := by
  have h1 := (pl_inv hf t (by omega)).1
  obtain ⟨a1, a2, _⟩ := plE_ok hf ht
  exact isE_step h1 a1 a2 he
theorem pl_left (hf : GF f) {e : Nat} (he : e < 1600) : ∀ t, t ≤ ecn f → isE (plG f t) e = true → isE f e = true ∧ ∀ s, s < t → e ≠ plE f s
  | 0, _, h => ⟨h, fun s hs => absurd hs (Nat.not_lt_zero _)⟩
  | t + 1, ht, h => by
    rw [pl_step hf (by omega) he, Bool.and_eq_true, decide_eq_true_iff] at h
    obtain ⟨h1, h2⟩ := pl_left hf he t (by omega) h.1
    refine ⟨h1, fun s hs => ?_⟩
    by_cases q : s = t
    · subst q; exact h.2
    · exact h2 s (by omega)
theorem pl_gone (hf : GF f) {e : Nat} (he : e < 1600) (hE : isE f e = true) : ∀ t, t ≤ ecn f → isE (plG f t) e = true ∨ ∃ s, s < t ∧ e = plE f s
  | 0, _ => Or.inl hE
  | t + 1, ht => by
    rcases pl_gone hf he hE t (by omega) with q | ⟨s, hs, q⟩
    · by_cases z : e = plE f t
      · exact Or.inr ⟨t, Nat.lt_succ_self _, z⟩
      · left
        rw [pl_step hf (by omega) he, q, decide_eq_true z]; rfl
    · exact Or.inr ⟨s, by omega, q⟩
theorem pl_all (hf : GF f) {e : Nat} (he : e < 1600) (hE : isE f e = true) : ∃ s, s < ecn f ∧ e = plE f s := by
  rcases pl_gone hf he hE (ecn f) (Nat.le_refl _) with q | q
  · have h2 := (pl_inv hf (ecn f) (Nat.le_refl _)).2
    have : 0 < ecn (plG f (ecn f)) := fb_ct_pos.mpr ⟨e, he, q⟩
    omega
  · exact q
theorem plE_edge (hf : GF f) {t : Nat} (ht : t < ecn f) : isE f (plE f t) = true := by
  obtain ⟨a1, a2, _⟩ := plE_ok hf ht
  exact (pl_left hf a1 t (by omega) a2).1
theorem plE_ne (hf : GF f) {s t : Nat} (hs : s < t) (ht : t < ecn f) : plE f t ≠ plE f s := by
  obtain ⟨a1, a2, _⟩ := plE_ok hf ht
  exact (pl_left hf a1 t (by omega) a2).2 s hs
theorem ecn_le (f : Nat → Int64) : ecn f ≤ 780 := ec_le f
def pTr (f : Nat → Int64) (e : Nat) : Nat → Nat
  | 0 => 0
  | t + 1 => if e = plE f t then plM f (t + 1) + 2 else pTr f e t
def ptr (f : Nat → Int64) (e : Nat) : Nat := pTr f e (ecn f)
theorem pTr_at (hf : GF f) {s : Nat} : ∀ t, s < t → t ≤ ecn f → pTr f (plE f s) t = plM f (s + 1) + 2
  | 0, h, _ => absurd h (Nat.not_lt_zero _)
  | t + 1, h, ht => by
    show (if plE f s = plE f t then plM f (t + 1) + 2 else pTr f (plE f s) t) = _
    by_cases q : s = t
    · subst q; rw [if_pos rfl]
    · rw [if_neg (fun z => plE_ne hf (show s < t by omega) (by omega) z.symm)]
      exact pTr_at hf t (by omega) (by omega)
theorem ptr_at (hf : GF f) {s : Nat} (hs : s < ecn f) : ptr f (plE f s) = plM f (s + 1) + 2 := pTr_at hf (ecn f) hs (Nat.le_refl _)
theorem ptr_le (e : Nat) : ptr f e ≤ 66 := by
  unfold ptr
  generalize ecn f = n
  induction n with
  | zero => exact Nat.zero_le _
  | succ n ih =>
    show (if e = plE f n then plM f (n + 1) + 2 else pTr f e n) ≤ 66
    have := plM_le f (n + 1)
    split
    · omega
    · exact ih
/-- what the rows of trusses, turns and of the order hold -/
def PF (f : Nat → Int64) (t : Nat) (A B C : Nat → Int32) : Prop := ∀ s, s < t → A (plE f s) = nI (plM f (s + 1) + 2) ∧ B (plE f s) = nI s ∧ C s = nI (plE f s)
theorem PF_tr (hf : GF f) {A B C : Nat → Int32} (h : PF f (ecn f) A B C) {e : Nat} (he : e < 1600) (hE : isE f e = true) : A e = nI (ptr f e) := by
  obtain ⟨s, hs, q⟩ := pl_all hf he hE
  rw [q, ptr_at hf hs]
  exact (h s hs).1
theorem pl_count (hf : GF f) (P : Nat → Bool) : ∀ t, t ≤ ecn f → fb_ct (fun i => P (plE f i)) t + fb_ct (fun e => isE (plG f t) e && P e) 1600 = fb_ct (fun e => isE f e && P e) 1600
  | 0, _ => Nat.zero_add _
  | t + 1, ht => by
    have ih := pl_count hf P t (by omega)
    obtain ⟨a1, a2, _⟩ := plE_ok hf (show t < ecn f by omega)
    have e1 : fb_ct (fun e => isE (plG f (t + 1)) e && P e) 1600 = fb_ct (fun k => if k = plE f t then false else (isE (plG f t) k && P k)) 1600 := fb_ct_cong (fun k hk => by
      rw [pl_step hf (by omega) hk]
      by_cases q : k = plE f t
      · rw [if_pos q, decide_eq_false (fun z => z q), Bool.and_false, Bool.false_and]
      · rw [if_neg q, decide_eq_true q, Bool.and_true])
    have e2 := fb_ct_upd (fun e => isE (plG f t) e && P e) false a1
    rw [fb_ct_succ, e1]
    rw [a2, Bool.true_and] at e2
    have e3 : (if (false : Bool) = true then 1 else 0) = 0 := rfl
    rw [e3] at e2
    omega
theorem pl_cnt (hf : GF f) (P : Nat → Bool) : fb_ct (fun i => P (plE f i)) (ecn f) = fb_ct (fun e => isE f e && P e) 1600 := by
  have h := pl_count hf P (ecn f) (Nat.le_refl _)
  have h2 := (pl_inv hf (ecn f) (Nat.le_refl _)).2
  have h3 : fb_ct (fun e => isE (plG f (ecn f)) e && P e) 1600 ≤ ecn (plG f (ecn f)) := fb_ct_sub (fun k _ q => by
    rw [Bool.and_eq_true] at q; exact q.1)
  omega
end PL
