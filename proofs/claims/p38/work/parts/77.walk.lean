/-! HOODS: the class -/
def HA (f : Nat → Int64) (K : Int32) (e e' : Nat) : Prop := ∃ u v w, u < 40 ∧ v < 40 ∧ w < 40 ∧ u ≠ v ∧ u ≠ w ∧ v ≠ w ∧ inT f K (pr u v) = true ∧ inT f K (pr u w) = true ∧ inT f K (pr v w) = true ∧ e = pr u v ∧ e' = pr u w
section HOOD
variable {d : Nat} {f : Nat → Int64} {K : Int32}
theorem HA_sy (x y : Nat) (h : HA f K x y) : HA f K y x := by
  obtain ⟨u, v, w, h1, h2, h3, h4, h5, h6, h7, h8, h9, h10, h11⟩ := h
  exact ⟨u, w, v, h1, h3, h2, h5, h4, fun q => h6 q.symm, h8, h7, by rw [pr_comm]; exact h9, h11, h10⟩
theorem HA_lt (x y : Nat) (h : HA f K x y) : x < 1600 ∧ y < 1600 := by
  obtain ⟨u, v, w, h1, h2, h3, h4, h5, h6, h7, h8, h9, h10, h11⟩ := h
  rw [h10, h11]
  exact ⟨pr_lt h1 h2, pr_lt h1 h3⟩
theorem HA_T {x y : Nat} (h : HA f K x y) : inT f K x = true ∧ inT f K y = true := by
  obtain ⟨u, v, w, h1, h2, h3, h4, h5, h6, h7, h8, h9, h10, h11⟩ := h
  rw [h10, h11]
  exact ⟨h7, h8⟩
theorem HA_cT {x y : Nat} (hx : inT f K x = true) (h : Cn (HA f K) x y) : inT f K y = true := h (fun z => inT f K z = true) (fun a b k _ => (HA_T k).2) hx
theorem HA_nb {u v e' : Nat} (hu : u < 40) (hv : v < 40) (h : HA f K (pr u v) e') : ∃ w, w < 40 ∧ w ≠ u ∧ w ≠ v ∧ inT f K (pr u w) = true ∧ inT f K (pr v w) = true ∧ (e' = pr u w ∨ e' = pr v w) := by
  obtain ⟨a, b, w, h1, h2, h3, h4, h5, h6, h7, h8, h9, h10, h11⟩ := h
  rcases pr_inj hu hv h1 h2 h10 with ⟨q1, q2⟩ | ⟨q1, q2⟩
  · subst q1 q2
    exact ⟨w, h3, fun q => h5 q.symm, fun q => h6 q.symm, h8, h9, Or.inl h11⟩
  · subst q1 q2
    exact ⟨w, h3, fun q => h6 q.symm, fun q => h5 q.symm, h9, h8, Or.inr h11⟩
theorem HA_mk {u v w : Nat} (hu : u < 40) (hv : v < 40) (hw : w < 40) (h1 : u ≠ v) (h2 : u ≠ w) (h3 : v ≠ w) (t1 : inT f K (pr u v) = true) (t2 : inT f K (pr u w) = true) (t3 : inT f K (pr v w) = true) : HA f K (pr u v) (pr u w) ∧ HA f K (pr u v) (pr v w) :=
  ⟨⟨u, v, w, hu, hv, hw, h1, h2, h3, t1, t2, t3, rfl, rfl⟩, ⟨v, u, w, hv, hu, hw, fun q => h1 q.symm, h3, h2, by rw [pr_comm]; exact t1, t3, t2, pr_comm u v, rfl⟩⟩
/-- the walk's state: n edges found, new ones beside those of S0 -/
def WI (f : Nat → Int64) (K : Int32) (h : AH) (S0 : Nat → Bool) (e0 n : Nat) (nw : Nat → Bool) : Prop := (∀ e, e < 1600 → h.I 20 e = bI (S0 e || nw e)) ∧ (∀ e, e < 1600 → (nw e = true ↔ ∃ i, i < n ∧ h.I 19 i = nI e)) ∧ fb_ct nw 1600 = n ∧ (∀ e, e < 1600 → nw e = true → inT f K e = true ∧ Cn (HA f K) e0 e ∧ S0 e = false) ∧ nw e0 = true ∧ ∀ i, i < n → ∃ e, e < 1600 ∧ h.I 19 i = nI e
theorem WI_le {h : AH} {S0 : Nat → Bool} {e0 n : Nat} {nw : Nat → Bool} (q : WI f K h S0 e0 n nw) : n ≤ 780 := by
  obtain ⟨_, _, q3, q4, _, _⟩ := q
  have h1 : fb_ct nw 1600 ≤ fb_ct (isE f) 1600 := fb_ct_sub (fun k hk z => (inT_iff.mp (q4 k hk z).1).1)
  have h2 := ec_le f
  omega
theorem c_meet {h : AH} {S0 : Nat → Bool} {e0 n x : Nat} {nw : Nat → Bool} (hw : zWF h) (q : WI f K h S0 e0 n nw) (hx : x < 1600) (hT : inT f K x = true) (hc : Cn (HA f K) e0 x) : zK (d + 1) m_X6_meet [.ref 12, .int (nI x), .int (nI n)] h (kI (fun y h' => ∃ n' nw', y = nI n' ∧ WI f K h' S0 e0 n' nw' ∧ (∀ e, nw e = true → nw' e = true) ∧ (S0 x || nw' x) = true ∧ (∀ i, i < n → h'.I 19 i = h.I 19 i) ∧ n ≤ n' ∧ frm [19, 20] [] h h')) := by
  have hn := WI_le q
  have q0 := q
  obtain ⟨q1, q2, q3, q4, q5, q6⟩ := q
  refine r_X6_meet_0 _ _ hw ⟨v1600 hx, ?_⟩
  rw [cl_n hx (by decide), q1 x hx]
  cases hs : (S0 x || nw x) with
  | true =>
    exact ⟨fun _ => mk_kI hw ⟨n, nw, rfl, q0, fun _ k => k, hs, fun _ _ => rfl, Nat.le_refl _, frm_rf⟩, fun z => absurd z bt0⟩
  | false =>
    rw [Bool.or_eq_false_iff] at hs
    have e1 := fb_ct_upd nw true hx
    rw [hs.2, q3] at e1
    have e2 : fb_ct (fun k => if k = x then true else nw k) 1600 = n + 1 := by
      have a1 : (if (true : Bool) = true then 1 else 0) = 1 := rfl
      have a2 : (if (false : Bool) = true then 1 else 0) = 0 := rfl
      rw [a1, a2] at e1
      omega
    have e3 : fb_ct (fun k => if k = x then true else nw k) 1600 ≤ fb_ct (isE f) 1600 := fb_ct_sub (fun k hk z => by
      by_cases y : k = x
      · rw [y]; exact (inT_iff.mp hT).1
      · rw [if_neg y] at z
        exact (inT_iff.mp (q4 k hk z).1).1)
    have e4 := ec_le f
    have hlt : n < 780 := by omega
    rw [nI_ltE (by omega) (by decide), cl_n hlt (by decide), nI_add]
    refine ⟨fun z => absurd rfl z, fun _ => ⟨fun _ => ⟨v1600 hx, fun h5 k5 => ⟨v780 hlt, fun h7 k7 => ?_⟩⟩, fun z => absurd hlt z⟩⟩
    have hw7 := wf_I k7 (wf_I k5 hw)
    have x20 : h7.I 20 = va_up (h.I 20) x (nI 1) := by rw [sI_r k7 (by decide), k5, AH.sI_I]
    have x19 : h7.I 19 = va_up (h.I 19) n (nI x) := by rw [k7, AH.sI_I, sI_r k5 (by decide)]
    refine mk_kI hw7 ⟨n + 1, fun k => if k = x then true else nw k, rfl, ⟨fun e he => ?_, fun e he => ?_, e2, fun e he z => ?_, ?_, fun i hi => ?_⟩, fun e z => ?_, ?_, fun i hi => ?_, Nat.le_succ _, frm_tr (frm_wI k5 (by decide)) (frm_wI k7 (by decide))⟩
    · show h7.I 20 e = bI (S0 e || (if e = x then true else nw e))
      rw [x20]
      by_cases y : e = x
      · rw [y, va_up_self, if_pos rfl, Bool.or_true]; rfl
      · rw [va_up_ne _ _ y, if_neg y]; exact q1 e he
    · show (if e = x then true else nw e) = true ↔ _
      rw [x19]
      by_cases y : e = x
      · subst y
        rw [if_pos rfl]
        exact ⟨fun _ => ⟨n, Nat.lt_succ_self _, va_up_self _ _ _⟩, fun _ => rfl⟩
      · rw [if_neg y, q2 e he]
        constructor
        · rintro ⟨i, i1, i2⟩
          exact ⟨i, by omega, by rw [va_up_ne _ _ (by omega)]; exact i2⟩
        · rintro ⟨i, i1, i2⟩
          by_cases z : i = n
          · rw [z, va_up_self, nI_eqE (by omega) (by omega)] at i2
            exact absurd i2.symm y
          · rw [va_up_ne _ _ z] at i2
            exact ⟨i, by omega, i2⟩
    · have z : (if e = x then true else nw e) = true := z
      by_cases y : e = x
      · rw [y]; exact ⟨hT, hc, hs.1⟩
      · rw [if_neg y] at z; exact q4 e he z
    · show (if e0 = x then true else nw e0) = true
      by_cases y : e0 = x
      · rw [if_pos y]
      · rw [if_neg y]; exact q5
    · rw [x19]
      by_cases z : i = n
      · rw [z, va_up_self]; exact ⟨x, hx, rfl⟩
      · rw [va_up_ne _ _ z]; exact q6 i (by omega)
    · show (if e = x then true else nw e) = true
      by_cases y : e = x
      · rw [if_pos y]
      · rw [if_neg y]; exact z
    · show (S0 x || (if x = x then true else nw x)) = true
      rw [if_pos rfl, Bool.or_true]
    · rw [x19, va_up_ne _ _ (by omega)]
/-- an edge's neighbours are seen -/
def sn (f : Nat → Int64) (K : Int32) (S0 nw : Nat → Bool) (e : Nat) : Prop := ∀ e', HA f K e e' → (S0 e' || nw e') = true
theorem sn_up {S0 nw nw' : Nat → Bool} {e : Nat} (hm : ∀ e, nw e = true → nw' e = true) (q : sn f K S0 nw e) : sn f K S0 nw' e := fun e' k => by
  have := q e' k
  rw [Bool.or_eq_true] at this ⊢
  rcases this with z | z
  · exact Or.inl z
  · exact Or.inr (hm e' z)
theorem or_up {a b c : Bool} (h : b = true → c = true) (q : (a || b) = true) : (a || c) = true := by
  rw [Bool.or_eq_true] at q ⊢
  rcases q with z | z
  · exact Or.inl z
  · exact Or.inr (h z)
theorem c_wInner {Q : Option Value → AH → Prop} {h0 : AH} {S0 : Nat → Bool} {e0 j u v : Nat} (hf : GF f) (hP : PLF f h0) (hu : u < 40) (hv : v < 40) (huv : u ≠ v) (hT : inT f K (pr u v) = true) (hc : Cn (HA f K) e0 (pr u v)) (Kf : ∀ g n nw, zWF g → frm [19, 20] [] h0 g → WI f K g S0 e0 n nw → sn f K S0 nw (pr u v) → (∀ i, i < j + 1 → g.I 19 i = h0.I 19 i) → (∀ e, e < 1600 → ∀ nw0, (∃ n0, WI f K h0 S0 e0 n0 nw0) → nw0 e = true → nw e = true) → zQ none m_X6_walkFrom (d + 2) 19 [(0, .ref 12), (2, .int K), (3, .int (nI n)), (4, .int (nI (j + 1)))] [] g Q) : ∀ w, w ≤ 40 → ∀ g n nw, j < n → zWF g → frm [19, 20] [] h0 g → WI f K g S0 e0 n nw → (∀ w', w' < w → w' ≠ u → w' ≠ v → inT f K (pr u w') = true → inT f K (pr v w') = true → (S0 (pr u w') || nw (pr u w')) = true ∧ (S0 (pr v w') || nw (pr v w')) = true) → (∀ i, i < j + 1 → g.I 19 i = h0.I 19 i) → (∀ e, e < 1600 → ∀ nw0, (∃ n0, WI f K h0 S0 e0 n0 nw0) → nw0 e = true → nw e = true) → zQ none m_X6_walkFrom (d + 2) 77 [(0, .ref 12), (2, .int K), (3, .int (nI n)), (4, .int (nI j)), (5, .int (nI u)), (6, .int (nI v)), (7, .long (f u &&& f v)), (9, .int (nI w))] [] g Q := by
  obtain ⟨p1, p2, p3⟩ := hP
  refine nat_down ?_ (fun w hw40 ih => ?_)
  · intro g n nw hj hw fr q hS hpre hup
    refine r_X6_walkFrom_77 _ _ _ _ _ _ _ hw ⟨fun _ => ?_, fun z => absurd e40 z⟩
    rw [nI_add]
    refine Kf g n nw hw fr q (fun e' k => ?_) hpre hup
    obtain ⟨w, w1, w2, w3, w4, w5, w6⟩ := HA_nb hu hv k
    have := hS w w1 w2 w3 w4 w5
    rcases w6 with z | z
    · rw [z]; exact this.1
    · rw [z]; exact this.2
  · intro g n nw hj hw fr q hS hpre hup
    have hn := WI_le q
    have g16 : g.I 16 = h0.I 16 := frm_I fr (by decide)
    refine r_X6_walkFrom_77 _ _ _ _ _ _ _ hw ⟨fun z => absurd z (n40 hw40), fun _ => use_pI (c_hasBit (by omega)) ?_⟩
    rw [nI_add, gb_and]
    -- nothing to be met here
    have skip : ¬ (w ≠ u ∧ w ≠ v ∧ inT f K (pr u w) = true ∧ inT f K (pr v w) = true) → zQ none m_X6_walkFrom (d + 1 + 1) 77 [(0, .ref 12), (2, .int K), (3, .int (nI n)), (4, .int (nI j)), (5, .int (nI u)), (6, .int (nI v)), (7, .long (f u &&& f v)), (9, .int (nI (w + 1)))] [] g Q := fun no => ih g n nw hj hw fr q (fun w' h1 h2 h3 h4 h5 => by
      by_cases e : w' = w
      · subst e; exact absurd ⟨h2, h3, h4, h5⟩ no
      · exact hS w' (by omega) h2 h3 h4 h5) hpre hup
    have edge : ∀ a b, a < 40 → b < 40 → a ≠ b → isE f (pr a b) = gb (f a) b := fun a b ha hb hab => isE_pr hf.1 ha hb hab
    refine ⟨fun z => skip (fun ⟨k1, k2, k3, k4⟩ => ?_), fun z => use_pI (c_pairOf hu hw40) ⟨v1600 (pr_lt hu hw40), ?_⟩⟩
    · have z := bF z
      rw [← edge u w hu hw40 (fun q => k1 q.symm), (inT_iff.mp k3).1, ← edge v w hv hw40 (fun q => k2 q.symm), (inT_iff.mp k4).1] at z
      cases z
    · have z := bT z
      rw [Bool.and_eq_true] at z
      have hwu : u ≠ w := fun e => by rw [← e, hf.2.1] at z; exact absurd z.1 (by decide)
      have hwv : v ≠ w := fun e => by rw [← e, hf.2.1] at z; exact absurd z.2 (by decide)
      have E1 : isE f (pr u w) = true := by rw [edge u w hu hw40 hwu]; exact z.1
      have E2 : isE f (pr v w) = true := by rw [edge v w hv hw40 hwv]; exact z.2
      rw [cl_n (pr_lt hu hw40) (by decide), g16, PF_tr hf p3 (pr_lt hu hw40) E1]
      refine ⟨fun y => skip (fun ⟨_, _, k3, _⟩ => (inT_iff.mp k3).2 y), fun y1 => use_pI (c_pairOf hv hw40) ⟨v1600 (pr_lt hv hw40), ?_⟩⟩
      rw [cl_n (pr_lt hv hw40) (by decide), PF_tr hf p3 (pr_lt hv hw40) E2]
      refine ⟨fun y => skip (fun ⟨_, _, _, k4⟩ => (inT_iff.mp k4).2 y), fun y2 => use_pI (c_pairOf hu hw40) ?_⟩
      have T1 : inT f K (pr u w) = true := inT_iff.mpr ⟨E1, y1⟩
      have T2 : inT f K (pr v w) = true := inT_iff.mpr ⟨E2, y2⟩
      have HM := HA_mk hu hv hw40 huv hwu hwv hT T1 T2
      refine use_kI (c_meet (d := d) hw q (pr_lt hu hw40) T1 (Cn_tr hc (Cn_st HM.1))) (fun a h11 hw11 ⟨n1, nw1, e1, W1, m1, s1, b1, l1, fr1⟩ => use_pI (c_pairOf hv hw40) ?_)
      subst e1
      refine use_kI (c_meet (d := d) hw11 W1 (pr_lt hv hw40) T2 (Cn_tr hc (Cn_st HM.2))) (fun a h14 hw14 ⟨n2, nw2, e2, W2, m2, s2, b2, l2, fr2⟩ => ?_)
      subst e2
      refine ih h14 n2 nw2 (by omega) hw14 (frm_tr fr (frm_tr fr1 fr2)) W2 (fun w' h1 h2 h3 h4 h5 => ?_) (fun i hi => by rw [b2 i (by omega), b1 i (by omega)]; exact hpre i hi) (fun e he nw0 k0 k1 => m2 e (m1 e (hup e he nw0 k0 k1)))
      by_cases e : w' = w
      · subst e
        exact ⟨or_up (m2 _) s1, s2⟩
      · have := hS w' (by omega) h2 h3 h4 h5
        exact ⟨or_up (fun k => m2 _ (m1 _ k)) this.1, or_up (fun k => m2 _ (m1 _ k)) this.2⟩
end HOOD
