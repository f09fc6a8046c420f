/-! heaps with one row anew -/
theorem va_up_up {α : Type} (f : Nat → α) (k : Nat) (x y : α) : va_up (va_up f k x) k y = va_up f k y := by
  funext a
  by_cases ha : a = k
  · subst ha; rw [va_up_self, va_up_self]
  · rw [va_up_ne _ _ ha, va_up_ne _ _ ha, va_up_ne _ _ ha]
theorem wI_wI {h : AH} {k : Nat} {f g : Nat → Int32} : (h.wI k f).wI k g = h.wI k g := by
  show (h.n, h.u, h.sh, va_up (va_up h.I k f) k g, h.L, h.P) = (h.n, h.u, h.sh, va_up h.I k g, h.L, h.P)
  rw [va_up_up]
theorem wL_wL {h : AH} {k : Nat} {f g : Nat → Int64} : (h.wL k f).wL k g = h.wL k g := by
  show (h.n, h.u, h.sh, h.I, va_up (va_up h.L k f) k g, h.P) = (h.n, h.u, h.sh, h.I, va_up h.L k g, h.P)
  rw [va_up_up]
theorem wI_sI {h : AH} {k j : Nat} {g : Nat → Int32} {x : Int32} : (h.wI k g).sI k j x = h.wI k (va_up g j x) := by
  unfold AH.sI
  rw [AH.wI_I, wI_wI]
theorem wL_sL {h : AH} {k j : Nat} {g : Nat → Int64} {x : Int64} : (h.wL k g).sL k j x = h.wL k (va_up g j x) := by
  unfold AH.sL
  rw [AH.wL_L, wL_wL]
theorem va_up_id {α : Type} (f : Nat → α) (k : Nat) : va_up f k (f k) = f := by
  funext a
  by_cases ha : a = k
  · subst ha; rw [va_up_self]
  · rw [va_up_ne _ _ ha]
theorem wI_id {h : AH} {k : Nat} : h.wI k (h.I k) = h := by
  unfold AH.wI
  rw [va_up_id]
  rfl
theorem wL_id {h : AH} {k : Nat} : h.wL k (h.L k) = h := by
  unfold AH.wL
  rw [va_up_id]
  rfl
theorem cl_n {i n : Nat} (h : i < n) (hn : n < 2147483648) : (nI i).toNatClampNeg = i := nI_clampE (by omega)
section FILL
variable {d : Nat} {h : AH} {r0 n0 : Nat}
theorem c_fillI (v : Int32) (hw : zWF h) (hn : n0 < 2147483648) (hs : h.sh r0 = some (.inr (0, n0))) : zK (d + 1) m_J7_fill_53178 [.ref r0, .int v] h (kV (fun h' => ∃ g, h' = h.wI r0 g ∧ (∀ j, j < n0 → g j = v) ∧ ∀ j, n0 ≤ j → g j = h.I r0 j)) := by
  refine r_J7_fill_53178_0 r0 v n0 hs ?_
  have key : ∀ i, i ≤ n0 → ∀ g, (∀ j, j < i → g j = v) → (∀ j, n0 ≤ j → g j = h.I r0 j) → zQ none m_J7_fill_53178 (d + 1) 5 [(0, .ref r0), (1, .int v), (2, .int (nI i)), (3, .int (nI n0))] [] (h.wI r0 g) (kV (fun h' => ∃ g, h' = h.wI r0 g ∧ (∀ j, j < n0 → g j = v) ∧ ∀ j, n0 ≤ j → g j = h.I r0 j)) := by
    refine nat_down ?_ (fun i hi ih => ?_)
    · intro g h1 h2
      exact r_J7_fill_53178_5 (h := h.wI r0 g) r0 v _ _ n0 hs ⟨fun _ => mk_kV hw ⟨g, rfl, h1, h2⟩, fun q => absurd (nI_le (Nat.le_refl _) hn) q⟩
    · intro g h1 h2
      refine r_J7_fill_53178_5 (h := h.wI r0 g) r0 v _ _ n0 hs ⟨fun q => absurd q (nI_ge hi hn), fun _ => ⟨vp_in_nI hi hn, fun h3 e3 => ?_⟩⟩
      rw [cl_n hi hn, wI_sI] at e3
      subst e3
      rw [nI_add]
      refine ih _ (fun j hj => ?_) (fun j hj => ?_)
      · by_cases e : j = i
        · subst e; rw [va_up_self]
        · rw [va_up_ne _ _ e]; exact h1 j (by omega)
      · rw [va_up_ne _ _ (by omega)]; exact h2 j hj
  have := key 0 (Nat.zero_le _) (h.I r0) (fun j hj => absurd hj (Nat.not_lt_zero _)) (fun _ _ => rfl)
  rw [wI_id] at this
  exact this
end FILL
/-! cores -/
def stayP (f : Nat → Int64) (K : Int32) (S : Int64) (v : Nat) : Bool := gb S v && decide (¬ nI (pc (f v &&& S)) < K)
def stay (f : Nat → Int64) (K : Int32) (S : Int64) : Int64 := mk (stayP f K S) 40
def cw (f : Nat → Int64) (K : Int32) : Nat → Int64 → Int64
  | 0, S => S
  | n + 1, S => cw f K n (stay f K S)
def stable (f : Nat → Int64) (K : Int32) (C : Int64) : Prop := ∀ v, v < 40 → gb C v = true → ¬ nI (pc (f v &&& C)) < K
theorem cw_fix {f : Nat → Int64} {K : Int32} {S : Int64} (h : stay f K S = S) : ∀ n, cw f K n S = S
  | 0 => rfl
  | n + 1 => by show cw f K n (stay f K S) = S; rw [h]; exact cw_fix h n
theorem gb_stay {f : Nat → Int64} {K : Int32} {S : Int64} {v : Nat} : gb (stay f K S) v = true ↔ v < 40 ∧ gb S v = true ∧ ¬ nI (pc (f v &&& S)) < K := by
  unfold stay stayP
  rw [gb_mk _ _ _ (by decide), Bool.and_eq_true, Bool.and_eq_true, decide_eq_true_iff, decide_eq_true_iff]
theorem stay_sub {f : Nat → Int64} {K : Int32} {S : Int64} : sub (stay f K S) S := fun v h => (gb_stay.mp h).2.1
theorem lt_mono {p q : Nat} {K : Int32} (hpq : p ≤ q) (hq : q ≤ 64) (h : ¬ nI p < K) : ¬ nI q < K := by
  rw [Int32.lt_iff_toInt_lt, nI_toInt (by omega)] at h ⊢
  omega
theorem stay_in {f : Nat → Int64} {K : Int32} {S U : Int64} (hU : sub U S) (hA : sub U AV) (hs : stable f K U) : sub U (stay f K S) := fun v h => by
  have hv : v < 40 := by have := hA v h; rw [gb_AV, decide_eq_true_iff] at this; exact this
  exact gb_stay.mpr ⟨hv, hU v h, lt_mono (pc_mono (and_sub hU)) (pc_le _) (hs v hv h)⟩
theorem pc_rm {S : Int64} {v : Nat} (hv : v < 64) (h : gb S v = true) : pc (S &&& (one v ^^^ (-1))) + 1 = pc S := by
  have := fb_ct_upd (gb S) false hv
  rw [h] at this
  have e : pc (S &&& (one v ^^^ (-1))) = fb_ct (fun k => if k = v then false else gb S k) 64 := fb_ct_cong (fun k hk => by
    rw [gb_and, gb_not1 hv hk]
    by_cases e : k = v
    · simp [e]
    · simp [e])
  rw [e]
  exact this
theorem pc_lt {S T : Int64} (h : sub S T) {v : Nat} (hv : v < 64) (h1 : gb T v = true) (h2 : gb S v = false) : pc S < pc T := by
  have h3 := pc_rm hv h1
  have h4 : sub S (T &&& (one v ^^^ (-1))) := fun i hi => by
    have hi64 : i < 64 := by
      apply Classical.byContradiction
      intro q
      rw [gb_ge (by omega)] at hi
      cases hi
    rw [gb_and, gb_not1 hv hi64, h i hi, Bool.true_and, Bool.not_eq_true', decide_eq_false_iff_not]
    intro e
    subst e
    rw [h2] at hi
    cases hi
  have := pc_mono h4
  omega
theorem stay_lt {f : Nat → Int64} {K : Int32} {S : Int64} (h : stay f K S ≠ S) : pc (stay f K S) < pc S := by
  have : ∃ i, gb S i = true ∧ gb (stay f K S) i = false := by
    apply Classical.byContradiction
    intro q
    apply h
    apply sub_eq stay_sub
    intro i hi
    cases hs : gb (stay f K S) i with
    | true => rfl
    | false => exact absurd ⟨i, hi, hs⟩ q
  obtain ⟨i, h1, h2⟩ := this
  have hi : i < 64 := by
    apply Classical.byContradiction
    intro q
    rw [gb_ge (by omega)] at h1
    cases h1
  exact pc_lt stay_sub hi h1 h2
theorem stable_of {f : Nat → Int64} {K : Int32} {S : Int64} (h : stay f K S = S) : stable f K S := fun v hv hs => by
  rw [← h] at hs
  exact (gb_stay.mp hs).2.2
theorem cw_stable {f : Nat → Int64} {K : Int32} : ∀ n S, pc S < n + 1 → stable f K (cw f K n S)
  | 0, S, h => fun v hv hs => by
    have h1 : pc S = 0 := by omega
    have := fb_ct_zero.mp h1 v (by omega)
    rw [show gb S v = true from hs] at this
    cases this
  | n + 1, S, h => by
    by_cases e : stay f K S = S
    · rw [cw_fix e]; exact stable_of e
    · exact cw_stable n _ (by have := stay_lt e; omega)
theorem cw_sub {f : Nat → Int64} {K : Int32} : ∀ n S, sub (cw f K n S) S
  | 0, _ => fun _ h => h
  | n + 1, S => fun i h => stay_sub i (cw_sub n _ i h)
theorem cw_in {f : Nat → Int64} {K : Int32} {U : Int64} (hA : sub U AV) (hs : stable f K U) : ∀ n S, sub U S → sub U (cw f K n S)
  | 0, _, h => h
  | n + 1, _, h => cw_in hA hs n _ (stay_in h hA hs)
theorem pc_AV : pc AV = 40 := by decide +kernel
theorem cw_st {f : Nat → Int64} {K : Int32} {S : Int64} (h : sub S AV) : stable f K (cw f K 41 S) := cw_stable 41 S (by have := pc_mono h; rw [pc_AV] at this; omega)
theorem avs : sub AV AV := fun _ h => h
def CK (f : Nat → Int64) (k : Nat) : Int64 := cw f (nI k) 41 AV
theorem CK_AV (f : Nat → Int64) (k : Nat) : sub (CK f k) AV := cw_sub _ _
theorem CK_anti {f : Nat → Int64} {k j : Nat} (h : k ≤ j) (hj : j < 2147483648) : sub (CK f j) (CK f k) := by
  refine cw_in (CK_AV f j) (fun v hv hs => ?_) _ _ (CK_AV f j)
  have : ¬ nI (pc (f v &&& CK f j)) < nI j := cw_st (f := f) (K := nI j) avs v hv hs
  rw [Int32.lt_iff_toInt_lt, nI_toInt (by have := pc_le (f v &&& CK f j); omega), nI_toInt (by omega)] at this ⊢
  exact fun q => this (by show (pc (f v &&& CK f j) : Int) < _; omega)
theorem CK_next {f : Nat → Int64} {k : Nat} (hk : k + 1 < 2147483648) : cw f (nI (k + 1)) 41 (CK f k) = CK f (k + 1) := by
  apply sub_eq
  · exact cw_in (fun i h => CK_AV f k i (cw_sub _ _ i h)) (cw_st (CK_AV f k)) _ _ (fun i h => CK_AV f k i (cw_sub _ _ i h))
  · exact cw_in (CK_AV f (k + 1)) (cw_st avs) _ _ (CK_anti (by omega) hk)
theorem CK_0 (f : Nat → Int64) : CK f 0 = AV := sub_eq (CK_AV f 0) (cw_in avs (fun v _ _ => by rw [Int32.lt_iff_toInt_lt, nI_toInt (by have := pc_le (f v &&& AV); omega), nI_toInt (by decide)]; omega) _ _ avs)
theorem CK_40 {f : Nat → Int64} (hf : GF f) : CK f 40 = 0 := by
  apply Classical.byContradiction
  intro q
  obtain ⟨v, hv⟩ := ne0_iff.mp q
  have hv40 : v < 40 := by have := CK_AV f 40 v hv; rw [gb_AV, decide_eq_true_iff] at this; exact this
  have h1 : ¬ nI (pc (f v &&& CK f 40)) < nI 40 := cw_st (f := f) (K := nI 40) avs v hv40 hv
  have h2 : pc (f v &&& CK f 40) < pc AV := by
    refine pc_lt (fun i hi => ?_) (show v < 64 by omega) (by rw [gb_AV, decide_eq_true_iff]; exact hv40) (by rw [gb_and, hf.2.1]; rfl)
    rw [gb_and, Bool.and_eq_true] at hi
    exact CK_AV f 40 i hi.2
  rw [pc_AV] at h2
  exact h1 ((nI_ltE (by omega) (by decide)).mpr h2)
def corN (f : Nat → Int64) (v : Nat) : Nat → Nat
  | 0 => 0
  | n + 1 => if gb (CK f (n + 1)) v = true then n + 1 else corN f v n
def cor (f : Nat → Int64) (v : Nat) : Nat := corN f v 39
theorem corN_le (f : Nat → Int64) (v : Nat) : ∀ n, corN f v n ≤ n
  | 0 => Nat.le_refl _
  | n + 1 => by
    show (if _ then _ else _) ≤ _
    split
    · exact Nat.le_refl _
    · exact Nat.le_succ_of_le (corN_le f v n)
theorem corN_end {f : Nat → Int64} {v k : Nat} (h : CK f (k + 1) = 0) : ∀ m, k + m < 1000 → corN f v (k + m) = corN f v k
  | 0, _ => rfl
  | m + 1, hm => by
    show (if gb (CK f (k + m + 1)) v = true then k + m + 1 else corN f v (k + m)) = _
    rw [if_neg, corN_end h m (by omega)]
    intro q
    have := CK_anti (f := f) (show k + 1 ≤ k + m + 1 by omega) (by omega) v q
    rw [h, gb_0] at this
    cases this
section CORE
variable {d : Nat} {h : AH} {r0 : Nat}
theorem c_coreWithin (S : Int64) (K : Int32) (hs : h.sh r0 = some (.inr (1, 40))) : zK (d + 2) m_X2_coreWithin [.ref r0, .long S, .int K] h (pL h (fun x => x = cw (h.L r0) K 41 S)) := by
  refine r_X2_coreWithin_0 r0 S K hs ?_
  have key : ∀ n s S, n + s = 41 → zQ none m_X2_coreWithin (d + 1 + 1) 6 [(0, .ref r0), (3, .int K), (4, .long S), (6, .int (nI s))] [] h (pL h (fun x => x = cw (h.L r0) K n S)) := by
    intro n
    induction n with
    | zero =>
      intro s S hn
      refine r_X2_coreWithin_6 r0 _ _ _ hs ⟨fun _ => mk_pL rfl, fun q => absurd (nI_lt (by omega) (by omega)) q⟩
    | succ n ih =>
      intro s S hn
      refine r_X2_coreWithin_6 r0 _ _ _ hs ⟨fun q => absurd q (nI_nlt (by omega) (by decide)), fun _ => ?_⟩
      refine nat_down (N := 40) (P := fun i => zQ none _ _ 19 [(0, _), (3, _), (4, _), (6, _), (7, .long (mk (stayP (h.L r0) K S) i)), (9, .int (nI i))] [] h _) ?_ (fun i hi ih3 => ?_) 0 (Nat.zero_le _)
      · refine r_X2_coreWithin_19 r0 _ _ _ _ _ hs ⟨fun _ => ⟨fun q => ?_, fun q => mk_pL ?_⟩, fun q => absurd e40 q⟩
        · rw [nI_add]
          exact ih (s + 1) (stay (h.L r0) K S) (by omega)
        · rw [lg_cmp0] at q
          exact (cw_fix q (n + 1)).symm
      · refine r_X2_coreWithin_19 r0 _ _ _ _ _ hs ⟨fun q => absurd q (n40 hi), fun _ => use_pI (c_hasBit (by omega)) ⟨fun q => ?_, fun q => ⟨vi40 hi, ?_⟩⟩⟩
        · have e : mk (stayP (h.L r0) K S) (i + 1) = mk (stayP (h.L r0) K S) i := if_neg (by unfold stayP; rw [bF q]; simp)
          rw [e] at ih3
          rw [nI_add]
          exact ih3
        · rw [cl40 hi]
          refine use_pI (c_bitCount _) ?_
          rw [nI_add]
          refine ⟨fun z => ?_, fun z => ?_⟩
          · have e : mk (stayP (h.L r0) K S) (i + 1) = mk (stayP (h.L r0) K S) i := if_neg (by unfold stayP; simp [z])
            rw [e] at ih3
            exact ih3
          · have e : mk (stayP (h.L r0) K S) (i + 1) = mk (stayP (h.L r0) K S) i ||| one i := if_pos (by unfold stayP; rw [bT q, decide_eq_true z]; rfl)
            rw [e] at ih3
            exact ih3
  exact key 41 0 S rfl
theorem c_layCores {r1 : Nat} (hw : zWF h) (hs : h.sh r0 = some (.inr (1, 40))) (hs1 : h.sh r1 = some (.inr (0, 40))) : zK (d + 3) m_X2_layCores [.ref r0, .ref r1] h (kV (fun h' => ∃ g, h' = h.wI r1 g ∧ ∀ u, u < 40 → g u = nI (cor (h.L r0) u))) := by
  refine r_X2_layCores_0 r0 r1 hw hs hs1 (use_kV (c_fillI (d := d + 1) (nI 0) hw (by decide) hs1) (fun h1 hw1 ⟨g0, e1, hz, _⟩ => ?_))
  subst e1
  refine ⟨hs, hs1, ?_⟩
  have main : ∀ n k, n + k = 39 → ∀ g, (∀ u, u < 40 → g u = nI (corN (h.L r0) u k)) → zQ none m_X2_layCores (d + 2 + 1) 12 [(0, .ref r0), (1, .ref r1), (2, .long (CK (h.L r0) k)), (4, .int (nI (k + 1)))] [] (h.wI r1 g) (kV (fun h' => ∃ g, h' = h.wI r1 g ∧ ∀ u, u < 40 → g u = nI (cor (h.L r0) u))) := by
    intro n
    induction n with
    | zero =>
      intro k hk g hg
      rw [Nat.zero_add] at hk
      subst hk
      exact r_X2_layCores_12 (h := h.wI r1 g) r0 r1 _ _ hw hs hs1 ⟨fun _ => mk_kV hw ⟨g, rfl, hg⟩, fun q => absurd e40 q⟩
    | succ n ih =>
      intro k hk g hg
      refine r_X2_layCores_12 (h := h.wI r1 g) r0 r1 _ _ hw hs hs1 ⟨fun q => absurd q (n40 (by omega)), fun _ => ⟨fun q => ?_, fun q => ?_⟩⟩
      · rw [lg_cmp0] at q
        refine mk_kV hw ⟨g, rfl, fun u hu => ?_⟩
        have hz1 : CK (h.L r0) (k + 1) = 0 := by
          rw [eq0_iff]
          intro i
          cases hb : gb (CK (h.L r0) (k + 1)) i with
          | false => rfl
          | true =>
            have := CK_anti (f := h.L r0) (show k ≤ k + 1 by omega) (by omega) i hb
            rw [q, gb_0] at this
            cases this
        have := corN_end (f := h.L r0) (v := u) (k := k) hz1 (39 - k) (by omega)
        rw [show k + (39 - k) = 39 by omega] at this
        rw [hg u hu, ← this]
        rfl
      · refine use_pL (c_coreWithin (h := h.wI r1 g) _ _ hs) ?_
        rw [show cw ((h.wI r1 g).L r0) (nI (k + 1)) 41 (CK (h.L r0) k) = CK (h.L r0) (k + 1) from CK_next (by omega)]
        have pass : ∀ i, i ≤ 40 → ∀ g, (∀ u, u < i → g u = nI (corN (h.L r0) u (k + 1))) → (∀ u, i ≤ u → u < 40 → g u = nI (corN (h.L r0) u k)) → zQ none m_X2_layCores (d + 2 + 1) 36 [(0, .ref r0), (1, .ref r1), (2, .long (CK (h.L r0) (k + 1))), (4, .int (nI (k + 1))), (5, .int (nI i))] [] (h.wI r1 g) (kV (fun h' => ∃ g, h' = h.wI r1 g ∧ ∀ u, u < 40 → g u = nI (cor (h.L r0) u))) := by
          refine nat_down ?_ (fun i hi ih3 => ?_)
          · intro g h1 h2
            refine r_X2_layCores_36 (h := h.wI r1 g) r0 r1 _ _ _ hw hs hs1 ⟨fun _ => ?_, fun q => absurd e40 q⟩
            rw [nI_add]
            exact ih (k + 1) (by omega) g h1
          · intro g h1 h2
            refine r_X2_layCores_36 (h := h.wI r1 g) r0 r1 _ _ _ hw hs hs1 ⟨fun q => absurd q (n40 hi), fun _ => use_pI (c_hasBit (by omega)) ⟨fun z => ?_, fun z => ⟨vi40 hi, fun h6 e6 => ?_⟩⟩⟩
            · rw [nI_add]
              refine ih3 g (fun u hu => ?_) (fun u hu hu2 => h2 u (by omega) hu2)
              by_cases e : u = i
              · subst e
                rw [h2 u (Nat.le_refl _) hi]
                congr 1
                exact (if_neg (by rw [bF z]; decide)).symm
              · exact h1 u (by omega)
            · rw [cl40 hi, wI_sI] at e6
              subst e6
              rw [nI_add]
              refine ih3 _ (fun u hu => ?_) (fun u hu hu2 => ?_)
              · by_cases e : u = i
                · subst e
                  rw [va_up_self]
                  congr 1
                  exact (if_pos (bT z)).symm
                · rw [va_up_ne _ _ e]; exact h1 u (by omega)
              · rw [va_up_ne _ _ (by omega)]; exact h2 u (by omega) hu2
        exact pass 0 (Nat.zero_le _) g (fun u hu => absurd hu (Nat.not_lt_zero _)) (fun u _ hu => hg u hu)
  have := main 39 0 rfl g0 (fun u hu => hz u hu)
  rw [CK_0] at this
  exact this
/-! FIGURES of a sort -/
def fig (f : Nat → Int64) (s u : Nat) : Nat := if s = 0 then pc (f u) else if s = 1 then tri f u else if s = 2 then cor f u else rng f u
end CORE
