/-! trusses: never above what their triangles bear; cores behind them -/
section TRS
variable {f : Nat → Int64}
theorem pl_still (hf : GF f) {t s : Nat} (h : t ≤ s) (hs : s < ecn f) : isE (plG f t) (plE f s) = true := by
  obtain ⟨a1, a2, _⟩ := plE_ok hf hs
  rcases pl_gone hf a1 (plE_edge hf hs) t (by omega) with q | ⟨k, hk, q⟩
  · exact q
  · exact absurd q (plE_ne hf (show k < s by omega) hs)
theorem sup_down (hf : GF f) {s : Nat} (hs : s < ecn f) : ∀ t, t ≤ s → sup (plG f t) (plE f s) ≤ sup f (plE f s)
  | 0, _ => Nat.le_refl _
  | t + 1, h => by
    have ih := sup_down hf hs t (by omega)
    obtain ⟨a1, a2, _⟩ := plE_ok hf (show t < ecn f by omega)
    have h1 := (pl_inv hf t (by omega)).1
    have h2 := pl_still hf h hs
    rw [plG_s] at h2 ⊢
    have := sup_dc h1 a1 a2 (plE_ok hf hs).1 h2
    omega
theorem lxe_le {g : Nat → Int64} {b e : Nat} (h : lxe g b e) : sup g b ≤ sup g e := by
  unfold lxe at h
  omega
theorem plM_sup (hf : GF f) {s : Nat} (hs : s < ecn f) : ∀ t, t ≤ s + 1 → plM f t ≤ sup f (plE f s)
  | 0, _ => Nat.zero_le _
  | t + 1, h => by
    rw [plM_s]
    have ih := plM_sup hf hs t (by omega)
    have h1 := lxe_le ((plE_ok hf (show t < ecn f by omega)).2.2 _ (plE_ok hf hs).1 (pl_still hf (show t ≤ s by omega) hs))
    have h2 := sup_down hf hs t (by omega)
    omega
theorem ptr_sup (hf : GF f) {e : Nat} (he : e < 1600) (hE : isE f e = true) : 2 ≤ ptr f e ∧ ptr f e ≤ sup f e + 2 := by
  obtain ⟨s, hs, q⟩ := pl_all hf he hE
  rw [q, ptr_at hf hs]
  have := plM_sup hf hs (s + 1) (Nat.le_refl _)
  omega
theorem plM_at (f : Nat → Int64) : ∀ t, ∃ k, k ≤ t ∧ plM f (t + 1) = sup (plG f k) (plE f k)
  | 0 => ⟨0, Nat.le_refl _, by rw [plM_s]; exact Nat.zero_max _⟩
  | t + 1 => by
    obtain ⟨k, hk, q⟩ := plM_at f t
    rw [plM_s]
    rcases Nat.le_total (plM f (t + 1)) (sup (plG f (t + 1)) (plE f (t + 1))) with z | z
    · exact ⟨t + 1, Nat.le_refl _, Nat.max_eq_right z⟩
    · exact ⟨k, by omega, by rw [Nat.max_eq_left z]; exact q⟩
theorem sup_pr {g : Nat → Int64} {u v : Nat} (hu : u < 40) (hv : v < 40) (huv : u ≠ v) : sup g (pr u v) = pc (g u &&& g v) := by
  unfold sup
  rw [(pr_div hu hv).1, (pr_div hu hv).2]
  rcases Nat.lt_or_gt_of_ne huv with w | w
  · rw [Nat.min_eq_left (by omega), Nat.max_eq_right (by omega)]
  · rw [Nat.min_eq_right (by omega), Nat.max_eq_left (by omega), and_comm64]
theorem corN_ge {v k : Nat} (h : gb (CK f k) v = true) : ∀ n, k ≤ n → k ≤ corN f v n
  | 0, hn => by omega
  | n + 1, hn => by
    show k ≤ if gb (CK f (n + 1)) v = true then n + 1 else corN f v n
    by_cases z : gb (CK f (n + 1)) v = true
    · rw [if_pos z]; exact hn
    · rw [if_neg z]
      by_cases e : k = n + 1
      · subst e; exact absurd h z
      · exact corN_ge h n (by omega)
theorem ck_ge (hf : GF f) {v k : Nat} (hk : k ≤ 100) (h : gb (CK f k) v = true) : k ≤ cor f v := by
  by_cases z : k ≤ 39
  · exact corN_ge h 39 z
  · have := CK_anti (f := f) (show 40 ≤ k by omega) (by omega) v h
    rw [CK_40 hf, gb_0] at this
    cases this
/-- what is left of a net, if each edge lies in m triangles, is within a core -/
theorem dense_core (hf : GF f) {g : Nat → Int64} (hg : GF g) {m : Nat} (hm : m ≤ 64) (hs : ∀ x y, gb (g x) y = true → gb (f x) y = true) (hd : ∀ x y, gb (g x) y = true → m ≤ pc (g x &&& g y)) {u v : Nat} (huv : gb (g u) v = true) : m + 1 ≤ cor f u := by
  have hU : ∀ x, gb (mk (fun x => decide (g x ≠ 0)) 40) x = true ↔ x < 40 ∧ g x ≠ 0 := fun x => by
    rw [gb_mk _ _ _ (by decide), Bool.and_eq_true, decide_eq_true_iff, decide_eq_true_iff]
  have hA : sub (mk (fun x => decide (g x ≠ 0)) 40) AV := fun x hx => by
    rw [gb_AV, decide_eq_true_iff]; exact ((hU x).mp hx).1
  have hst : stable f (nI (m + 1)) (mk (fun x => decide (g x ≠ 0)) 40) := fun x hx4 hx => by
    obtain ⟨_, hx0⟩ := (hU x).mp hx
    obtain ⟨y, hy⟩ := ne0_iff.mp hx0
    have h1 := hd x y hy
    have hy4 := (hg.2.2 x y hy).2
    have h2 : pc (g x &&& g y) < pc (g x) := pc_lt (fun i hi => by rw [gb_and, Bool.and_eq_true] at hi; exact hi.1) (show y < 64 by omega) hy (by rw [gb_and, hg.2.1, Bool.and_false])
    have h3 : pc (g x) ≤ pc (f x &&& mk (fun x => decide (g x ≠ 0)) 40) := pc_mono (fun i hi => by
      rw [gb_and, Bool.and_eq_true]
      refine ⟨hs x i hi, (hU i).mpr ⟨(hg.2.2 x i hi).2, ne0_iff.mpr ⟨x, by rw [hg.1]; exact hi⟩⟩⟩)
    have h4 := pc_le (f x &&& mk (fun x => decide (g x ≠ 0)) 40)
    rw [nI_ltE (by omega) (by omega)]
    omega
  have hin : sub (mk (fun x => decide (g x ≠ 0)) 40) (CK f (m + 1)) := cw_in hA hst 41 AV hA
  exact ck_ge hf (by omega) (hin u ((hU u).mpr ⟨(hg.2.2 u v huv).1, ne0_iff.mpr ⟨v, huv⟩⟩))
theorem plG_in (hf : GF f) {t : Nat} (ht : t ≤ ecn f) {x y : Nat} (h : gb (plG f t x) y = true) : gb (f x) y = true := by
  have hg := (pl_inv hf t ht).1
  obtain ⟨hx, hy⟩ := hg.2.2 x y h
  have hne : x ≠ y := fun e => by rw [e, hg.2.1] at h; cases h
  have := (pl_left hf (pr_lt hx hy) t ht (by rw [isE_pr hg.1 hx hy hne]; exact h)).1
  rw [isE_pr hf.1 hx hy hne] at this
  exact this
theorem ptr_core (hf : GF f) {u v : Nat} (hu : u < 40) (hv : v < 40) (huv : u ≠ v) (hg : gb (f u) v = true) : ptr f (pr u v) ≤ cor f u + 1 := by
  have hE : isE f (pr u v) = true := by rw [isE_pr hf.1 hu hv huv]; exact hg
  obtain ⟨s, hs, q⟩ := pl_all hf (pr_lt hu hv) hE
  rw [q, ptr_at hf hs]
  obtain ⟨t, ht, e⟩ := plM_at f s
  have htl : t < ecn f := by omega
  have hg2 := (pl_inv hf t (by omega)).1
  have hin := pl_still hf ht hs
  rw [← q, isE_pr hg2.1 hu hv huv] at hin
  have h0 := plM_le f (s + 1)
  have := dense_core hf hg2 (m := plM f (s + 1)) h0 (fun x y h => plG_in hf (by omega) h) (fun x y h => by
    obtain ⟨hx, hy⟩ := hg2.2.2 x y h
    have hne : x ≠ y := fun e => by rw [e, hg2.2.1] at h; cases h
    have := lxe_le ((plE_ok hf htl).2.2 (pr x y) (pr_lt hx hy) (by rw [isE_pr hg2.1 hx hy hne]; exact h))
    rw [sup_pr hx hy hne] at this
    rw [e]
    exact this) hin
  omega
theorem inT_self {e : Nat} (hE : isE f e = true) : inT f (nI (ptr f e)) e = true := inT_iff.mpr ⟨hE, fun q => Int32.lt_irrefl q⟩
theorem inT_next (e : Nat) : inT f (nI (ptr f e + 1)) e = false := by
  have := ptr_le (f := f) e
  cases q : inT f (nI (ptr f e + 1)) e with
  | false => rfl
  | true => exact absurd ((nI_ltE (by omega) (by omega)).mpr (Nat.lt_succ_self _)) (inT_iff.mp q).2
end TRS
