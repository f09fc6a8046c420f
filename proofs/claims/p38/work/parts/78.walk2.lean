section HOOD2
variable {d : Nat} {f : Nat → Int64} {K : Int32}
theorem PLF_frm {SI SL : List Nat} {h h' : AH} (a : frm SI SL h h') (h1 : ∀ k ∈ [12, 16, 17, 18], k ∉ SI) (h2 : 13 ∉ SL) (q : PLF f h) : PLF f h' := by
  obtain ⟨q2, q3, q4⟩ := q
  refine ⟨fun k hk => by rw [frm_L a h2]; exact q2 k hk, by rw [frm_I a (h1 12 (by decide))]; exact q3, ?_⟩
  rw [frm_I a (h1 16 (by decide)), frm_I a (h1 17 (by decide)), frm_I a (h1 18 (by decide))]
  exact q4
theorem c_wOuter {hb : AH} {S0 : Nat → Bool} {e0 : Nat} {P : Int32 → AH → Prop} (hf : GF f) (hP : PLF f hb) (KP : ∀ g n nw, zWF g → frm [19, 20] [] hb g → WI f K g S0 e0 n nw → (∀ i, i < n → ∀ e, e < 1600 → g.I 19 i = nI e → sn f K S0 nw e) → P (nI n) g) : ∀ k j, k + j = 780 → ∀ g n nw, zWF g → frm [19, 20] [] hb g → j ≤ n → WI f K g S0 e0 n nw → (∀ i, i < j → ∀ e, e < 1600 → g.I 19 i = nI e → sn f K S0 nw e) → zQ none m_X6_walkFrom (d + 2) 19 [(0, .ref 12), (2, .int K), (3, .int (nI n)), (4, .int (nI j))] [] g (kI P) := by
  intro k
  induction k with
  | zero =>
    intro j hj g n nw hw fr hjn q hS
    have hn := WI_le q
    refine r_X6_walkFrom_19 _ _ _ hw ⟨fun _ => mk_kI hw (KP g n nw hw fr q (fun i hi => hS i (by omega))), fun z => absurd ((nI_leE (by omega) (by omega)).mpr (by omega)) z⟩
  | succ k ih =>
    intro j hj g n nw hw fr hjn q hS
    have hn := WI_le q
    refine r_X6_walkFrom_19 _ _ _ hw ?_
    rw [nI_leE (by omega) (by omega), nI_leE (by omega) (by omega)]
    refine ⟨fun z => mk_kI hw (KP g n nw hw fr q (fun i hi => hS i (by omega))), fun z => ⟨fun y => absurd y (by omega), fun _ => ⟨v780 (by omega), v780 (by omega), ?_⟩⟩⟩
    obtain ⟨e, e1, e2⟩ := q.2.2.2.2.2 j (by omega)
    have hnew : nw e = true := (q.2.1 e e1).mpr ⟨j, by omega, e2⟩
    obtain ⟨t1, t2, t3⟩ := q.2.2.2.1 e e1 hnew
    have hlt := (isE_b (inT_iff.mp t1).1).1
    have hpe : pr (e / 40) (e % 40) = e := by unfold pr; omega
    have PG : PLF f g := PLF_frm fr (by decide) (by decide) hP
    rw [cl_n (show j < 780 by omega) (by decide), e2, nI_remE (by omega) (by decide) (by decide), nI_divE (by omega) (by decide) (by decide), cl40 (show e / 40 < 40 by omega), cl40 (show e % 40 < 40 by omega), PG.1 _ (by omega), PG.1 _ (by omega)]
    refine ⟨vi40 (by omega), vi40 (by omega), ?_⟩
    refine c_wInner (d := d) (h0 := g) (j := j) hf PG (by omega) (by omega) (by omega) (by rw [hpe]; exact t1) (by rw [hpe]; exact t2) (fun g2 n2 nw2 hw2 fr2 q2 s2 pre2 up2 => ?_) 0 (Nat.zero_le _) g n nw (by omega) hw frm_rf q (fun w' h => absurd h (Nat.not_lt_zero _)) (fun _ _ => rfl) (fun e he nw0 ⟨n0, k0⟩ k1 => ?_)
    · have up3 : ∀ e, e < 1600 → nw e = true → nw2 e = true := fun e he k => up2 e he nw ⟨n, q⟩ k
      have hj2 : j + 1 ≤ n2 := by
        have := up3 e e1 hnew
        have hc : fb_ct nw 1600 ≤ fb_ct nw2 1600 := fb_ct_sub (fun k hk z => up3 k hk z)
        rw [q.2.2.1, q2.2.2.1] at hc
        omega
      refine ih (j + 1) (by omega) g2 n2 nw2 hw2 (frm_tr fr fr2) hj2 q2 (fun i hi e' he' h19 => ?_)
      rw [pre2 i hi] at h19
      by_cases z : i = j
      · rw [z, e2, nI_eqE (by omega) (by omega)] at h19
        rw [← h19, ← hpe]; exact s2
      · have s3 := hS i (by omega) e' he' h19
        intro e'' k3
        have s4 := s3 e'' k3
        rw [Bool.or_eq_true] at s4 ⊢
        rcases s4 with w | w
        · exact Or.inl w
        · exact Or.inr (up3 e'' (HA_lt _ _ k3).2 w)
    · obtain ⟨i, i1, i2⟩ := (k0.2.1 e he).mp k1
      have a1 := q.1 e he
      have a2 := k0.1 e he
      rw [a1] at a2
      have k2 := (k0.2.2.2.1 e he k1).2.2
      rw [k1, k2, Bool.false_or, Bool.or_true] at a2
      cases hz : nw e with
      | true => rfl
      | false => rw [hz] at a2; exact absurd a2 (by decide)
theorem c_walkFrom {h : AH} {S0 : Nat → Bool} {e0 : Nat} (hf : GF f) (hw : zWF h) (hP : PLF f h) (he0 : e0 < 1600) (hT : inT f K e0 = true) (h20 : ∀ e, e < 1600 → h.I 20 e = bI (S0 e)) (hS : ∀ x y, HA f K x y → S0 x = true → S0 y = true) (hn : S0 e0 = false) : zK (d + 2) m_X6_walkFrom [.ref 12, .int (nI e0), .int K] h (kI (fun x h' => x = nI (fb_ct (cnB (HA f K) e0) 1600) ∧ (∀ e, e < 1600 → h'.I 20 e = bI (S0 e || cnB (HA f K) e0 e)) ∧ frm [19, 20] [] h h')) := by
  refine r_X6_walkFrom_0 _ _ hw ⟨v1600 he0, fun h2 q2 => ⟨v780 (by decide), fun h4 q4 => ?_⟩⟩
  rw [cl_n he0 (by decide)] at q2
  rw [cl_n (show 0 < 780 by decide) (by decide)] at q4
  have hw4 := wf_I q4 (wf_I q2 hw)
  have f4 : frm [19, 20] [] h h4 := frm_tr (frm_wI q2 (by decide)) (frm_wI q4 (by decide))
  have x20 : h4.I 20 = va_up (h.I 20) e0 (nI 1) := by rw [sI_r q4 (by decide), q2, AH.sI_I]
  have W1 : WI f K h4 S0 e0 1 (fun e => decide (e = e0)) := by
    refine ⟨fun e he => ?_, fun e he => ?_, ?_, fun e he z => ?_, decide_eq_true rfl, fun i hi => ?_⟩
    · rw [x20]
      show _ = bI (S0 e || decide (e = e0))
      by_cases y : e = e0
      · rw [y, va_up_self, decide_eq_true rfl, Bool.or_true]; rfl
      · rw [va_up_ne _ _ y, decide_eq_false y, Bool.or_false]; exact h20 e he
    · show decide (e = e0) = true ↔ _
      rw [decide_eq_true_iff]
      constructor
      · intro y
        exact ⟨0, by decide, by rw [y]; exact sI_e q4⟩
      · rintro ⟨i, i1, i2⟩
        rw [show i = 0 by omega, sI_e q4, nI_eqE (by omega) (by omega)] at i2
        exact i2.symm
    · have e1 := fb_ct_upd (fun _ => false) true he0
      have e2 : fb_ct (fun _ => false) 1600 = 0 := fb_ct_zero.mpr (fun _ _ => rfl)
      have e3 : fb_ct (fun e => decide (e = e0)) 1600 = fb_ct (fun k => if k = e0 then true else false) 1600 := fb_ct_cong (fun k _ => by
        by_cases y : k = e0
        · rw [decide_eq_true y, if_pos y]
        · rw [decide_eq_false y, if_neg y])
      have a1 : (if (true : Bool) = true then 1 else 0) = 1 := rfl
      have a2 : (if (false : Bool) = true then 1 else 0) = 0 := rfl
      rw [a1, a2, e2] at e1
      rw [e3]
      omega
    · have z : decide (e = e0) = true := z
      rw [decide_eq_true_iff] at z
      rw [z]
      exact ⟨hT, Cn_rf, hn⟩
    · rw [show i = 0 by omega]
      exact ⟨e0, he0, sI_e q4⟩
  refine c_wOuter (d := d) hf (PLF_frm f4 (by decide) (by decide) hP) (fun g n nw hg fr q pr => ?_) 780 0 rfl h4 1 _ hw4 frm_rf (by decide) W1 (fun i hi => absurd hi (Nat.not_lt_zero _))
  have eq : ∀ e, e < 1600 → nw e = cnB (HA f K) e0 e := fun e he => b_iff (by
    rw [cnB_iff]
    constructor
    · intro z
      exact (q.2.2.2.1 e he z).2.1
    · intro z
      refine (z (fun y => y < 1600 ∧ nw y = true) (fun x y hxy hx => ?_) ⟨he0, q.2.2.2.2.1⟩).2
      obtain ⟨i, i1, i2⟩ := (q.2.1 x hx.1).mp hx.2
      have s := pr i i1 x hx.1 i2 y hxy
      have hy := (HA_lt x y hxy).2
      refine ⟨hy, ?_⟩
      rw [Bool.or_eq_true] at s
      rcases s with s | s
      · have := hS y x (HA_sy x y hxy) s
        rw [(q.2.2.2.1 x hx.1 hx.2).2.2] at this
        cases this
      · exact s)
  refine ⟨?_, fun e he => ?_, frm_tr f4 fr⟩
  · exact congrArg nI (q.2.2.1.symm.trans (fb_ct_cong eq))
  · rw [q.1 e he, eq e he]
theorem c_hoodOf {h : AH} {e0 : Nat} (hf : GF f) (hw : zWF h) (hP : PLF f h) (he0 : e0 < 1600) (hE : isE f e0 = true) : zK (d + 3) m_X6_hoodOf [.ref 12, .int (nI e0), .int K] h (kI (fun x h' => x = nI (if inT f K e0 = true then fb_ct (cnB (HA f K) e0) 1600 else 0) ∧ frm [19, 20] [] h h')) := by
  refine r_X6_hoodOf_0 _ _ hw ⟨v1600 he0, ?_⟩
  rw [cl_n he0 (by decide), PF_tr hf hP.2.2 he0 hE]
  refine ⟨fun z => use_kV (c_fillI 0 hw (by decide) (sh_20 hw)) (fun h3 hw3 ⟨g, e1, e2, _⟩ => ?_), fun z => mk_kI hw ⟨?_, frm_rf⟩⟩
  · have hT : inT f K e0 = true := inT_iff.mpr ⟨hE, Int32.not_lt.mpr z⟩
    have f3 : frm [19, 20] [] h h3 := frm_wI e1 (by decide)
    refine use_kI (c_walkFrom (d := d) (S0 := fun _ => false) hf hw3 (PLF_frm f3 (by decide) (by decide) hP) he0 hT (fun e he => ?_) (fun x y _ k => by cases k) rfl) (fun x h4 hw4 ⟨a1, a2, a3⟩ => mk_kI hw4 ⟨by rw [if_pos hT]; exact a1, frm_tr f3 a3⟩)
    rw [e1, AH.wI_I, e2 e he]; rfl
  · rw [if_neg (fun q => z (Int32.not_lt.mp (inT_iff.mp q).2))]
noncomputable def hooN (f : Nat → Int64) (K : Int32) : Nat := fb_ct (fun e => inT f K e && rtB (HA f K) e) 1600
theorem c_hoodsFrom {h : AH} (hf : GF f) (hw : zWF h) (hP : PLF f h) : zK (d + 3) m_X6_hoodsFrom [.ref 12, .int K] h (kI (fun x h' => x = nI (hooN f K) ∧ frm [19, 20] [] h h')) := by
  have hm := ecn_le f
  refine r_X6_hoodsFrom_0 _ hw (use_kV (c_fillI 0 hw (by decide) (sh_20 hw)) (fun h1 hw1 ⟨g0, e1, e2, _⟩ => ?_))
  have f1 : frm [19, 20] [] h h1 := frm_wI e1 (by decide)
  have key : ∀ i, i ≤ ecn f → ∀ (g : AH) (S : Nat → Bool), zWF g → frm [19, 20] [] h g → (∀ e, e < 1600 → g.I 20 e = bI (S e)) → (∀ x y, HA f K x y → S x = true → S y = true) → (∀ e, e < 1600 → S e = true → inT f K e = true) → (∀ j, j < i → inT f K (plE f j) = true → S (plE f j) = true) → zQ none m_X6_hoodsFrom (d + 2 + 1) 12 [(0, .ref 12), (1, .int K), (2, .int (nI (fb_ct (fun e => rtB (HA f K) e && S e) 1600))), (3, .int (nI i))] [] g (kI (fun x h' => x = nI (hooN f K) ∧ frm [19, 20] [] h h')) := by
    refine nat_down ?_ (fun i hi ih => ?_)
    · intro g S hg fr s1 s2 s3 s4
      have g8 : g.I 12 8 = nI (ecn f) := by rw [frm_I fr (by decide)]; exact hP.2.1
      refine r_X6_hoodsFrom_12 _ _ _ hg ⟨fun _ => mk_kI hg ⟨?_, fr⟩, fun z => absurd (by rw [g8]; exact (nI_leE (by omega) (by omega)).mpr (Nat.le_refl _)) z⟩
      refine congrArg nI ?_
      unfold hooN
      refine fb_ct_cong (fun e he => ?_)
      have eS : S e = inT f K e := b_iff ⟨s3 e he, fun hT => by
        obtain ⟨j, j1, j2⟩ := pl_all hf he (inT_iff.mp hT).1
        rw [j2] at hT ⊢
        exact s4 j j1 hT⟩
      rw [eS, Bool.and_comm]
    · intro g S hg fr s1 s2 s3 s4
      have g8 : g.I 12 8 = nI (ecn f) := by rw [frm_I fr (by decide)]; exact hP.2.1
      have PG : PLF f g := PLF_frm fr (by decide) (by decide) hP
      obtain ⟨b1, b2, b3⟩ := PG.2.2 i hi
      have hb := (plE_ok hf hi).1
      have hE := plE_edge hf hi
      refine r_X6_hoodsFrom_12 _ _ _ hg ⟨fun z => absurd (by rw [g8] at z; exact (nI_leE (by omega) (by omega)).mp z) (show ¬ ecn f ≤ i by omega), fun _ => ⟨v780 (by omega), ?_⟩⟩
      rw [cl_n (show i < 780 by omega) (by decide), b3, cl_n hb (by decide), b1, ← ptr_at hf hi, s1 _ hb, nI_add, nI_add]
      refine ⟨v1600 hb, fun z => ?_, fun z => ⟨v780 (by omega), v1600 hb, fun y => ?_, fun y => ⟨v780 (by omega), ?_⟩⟩⟩
      · refine ih g S hg fr s1 s2 s3 (fun j hj hT => ?_)
        by_cases e : j = i
        · rw [e] at hT; exact absurd z (inT_iff.mp hT).2
        · exact s4 j (by omega) hT
      · have yt : S (plE f i) = true := by
          cases q : S (plE f i) with
          | true => rfl
          | false => rw [q] at y; exact absurd rfl y
        refine ih g S hg fr s1 s2 s3 (fun j hj hT => ?_)
        by_cases e : j = i
        · rw [e]; exact yt
        · exact s4 j (by omega) hT
      · have yf : S (plE f i) = false := by
          cases q : S (plE f i) with
          | false => rfl
          | true => rw [q] at y; exact absurd y bt0
        have hT : inT f K (plE f i) = true := inT_iff.mpr ⟨hE, z⟩
        refine use_kI (c_walkFrom (d := d) hf hg PG hb hT s1 s2 yf) (fun x h9 hw9 ⟨a1, a2, a3⟩ => ?_)
        have sNo : ∀ e, S e = true → ¬ Cn (HA f K) (plE f i) e := fun e k q => by
          have := (Cn_sy HA_sy q) (fun z => S z = true) (fun x y hxy hx => s2 x y hxy hx) k
          rw [yf] at this
          cases this
        have ec : fb_ct (fun e => rtB (HA f K) e && (S e || cnB (HA f K) (plE f i) e)) 1600 = fb_ct (fun e => rtB (HA f K) e && S e) 1600 + 1 := by
          rw [← rt_one (A := HA f K) HA_sy HA_lt hb, ← fb_ct_or (p := fun e => rtB (HA f K) e && S e) (q := fun e => rtB (HA f K) e && cnB (HA f K) (plE f i) e) (fun k hk ⟨q1, q2⟩ => by
            rw [Bool.and_eq_true] at q1 q2
            exact sNo k q1.2 (cnB_iff.mp q2.2))]
          exact fb_ct_cong (fun k _ => by rw [Bool.and_or_distrib_left])
        have := ih h9 (fun e => S e || cnB (HA f K) (plE f i) e) hw9 (frm_tr fr a3) a2 (fun x y hxy hx => ?_) (fun e he k => ?_) (fun j hj hT2 => ?_)
        · rw [ec] at this
          exact this
        · have hx : (S x || cnB (HA f K) (plE f i) x) = true := hx
          show (S y || cnB (HA f K) (plE f i) y) = true
          rw [Bool.or_eq_true, cnB_iff] at hx ⊢
          rcases hx with q | q
          · exact Or.inl (s2 x y hxy q)
          · exact Or.inr (Cn_tr q (Cn_st hxy))
        · have k : (S e || cnB (HA f K) (plE f i) e) = true := k
          rw [Bool.or_eq_true, cnB_iff] at k
          rcases k with q | q
          · exact s3 e he q
          · exact HA_cT hT q
        · show (S (plE f j) || cnB (HA f K) (plE f i) (plE f j)) = true
          rw [Bool.or_eq_true, cnB_iff]
          by_cases e : j = i
          · rw [e]; exact Or.inr Cn_rf
          · exact Or.inl (s4 j (by omega) hT2)
  have h00 : fb_ct (fun e => rtB (HA f K) e && (fun _ => false) e) 1600 = 0 := fb_ct_zero.mpr (fun k _ => Bool.and_false _)
  have := key 0 (Nat.zero_le _) h1 (fun _ => false) hw1 f1 (fun e he => by rw [e1, AH.wI_I, e2 e he]; rfl) (fun x y _ k => by cases k) (fun e _ k => by cases k) (fun j hj => absurd hj (Nat.not_lt_zero _))
  rw [h00] at this
  exact this
end HOOD2
