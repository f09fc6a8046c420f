/-! HOOD, HOODS: the reference, and the pairs -/
section HOODM
variable {d : Nat} {f : Nat → Int64} {K : Int32}
def stE (f : Nat → Int64) (K : Int32) (M : Nat → Nat) (e a : Nat) : Prop := a ≠ e / 40 → a ≠ e % 40 → inT f K e = true → inT f K (pr (e / 40) a) = true → inT f K (pr (e % 40) a) = true → M e = M (pr (e / 40) a) ∧ M e = M (pr (e % 40) a)
/-- the state of a pass over edges and vertices -/
def PH (f : Nat → Int64) (K : Int32) (M0 : Nat → Nat) (e a : Nat) (b : Bool) (M : Nat → Nat) : Prop := MI (HA f K) 1600 M ∧ (b = false → M = M0 ∧ (∀ e', e' < e → ∀ a', a' < 40 → stE f K M e' a') ∧ ∀ a', a' < a → stE f K M e a') ∧ (b = true → fb_sm M 1600 < fb_sm M0 1600)
theorem ph_le {M0 M : Nat → Nat} {e a : Nat} {b : Bool} (h : PH f K M0 e a b M) : fb_sm M 1600 ≤ fb_sm M0 1600 := by
  cases b with
  | false => rw [(h.2.1 rfl).1]; exact Nat.le_refl _
  | true => exact Nat.le_of_lt (h.2.2 rfl)
def up3 (M : Nat → Nat) (x y z l : Nat) : Nat → Nat := va_up (va_up (va_up M x l) y l) z l
theorem up3_sm {M : Nat → Nat} {x y z l n : Nat} (hx : x < n) (hy : y < n) (hz : z < n) (h1 : y ≠ x) (h2 : z ≠ x) (h3 : z ≠ y) : fb_sm (up3 M x y z l) n + M x + M y + M z = fb_sm M n + l + l + l := by
  unfold up3
  have a1 := sm_up (M := M) (l := l) hx
  have a2 := sm_up (M := va_up M x l) (l := l) hy
  have a3 := sm_up (M := va_up (va_up M x l) y l) (l := l) hz
  rw [va_up_ne _ _ h1] at a2
  rw [va_up_ne _ _ h3, va_up_ne _ _ h2] at a3
  omega
theorem up3_mk {M : Nat → Nat} {x y z l n : Nat} {I J : Nat → Int32} (hJ : J = va_up (va_up (va_up I x (nI l)) y (nI l)) z (nI l)) (h : ∀ u, u < n → I u = nI (M u)) : ∀ u, u < n → J u = nI (up3 M x y z l u) := by
  intro u hu
  rw [hJ]
  unfold up3
  by_cases k1 : u = z
  · rw [k1, va_up_self, va_up_self]
  · rw [va_up_ne _ _ k1, va_up_ne _ _ k1]
    by_cases k2 : u = y
    · rw [k2, va_up_self, va_up_self]
    · rw [va_up_ne _ _ k2, va_up_ne _ _ k2]
      by_cases k3 : u = x
      · rw [k3, va_up_self, va_up_self]
      · rw [va_up_ne _ _ k3, va_up_ne _ _ k3]; exact h u hu
theorem up3_id {M : Nat → Nat} {x y z l : Nat} (h1 : M x = l) (h2 : M y = l) (h3 : M z = l) : up3 M x y z l = M := by
  funext u
  unfold up3
  by_cases k1 : u = z
  · rw [k1, va_up_self, h3]
  · rw [va_up_ne _ _ k1]
    by_cases k2 : u = y
    · rw [k2, va_up_self, h2]
    · rw [va_up_ne _ _ k2]
      by_cases k3 : u = x
      · rw [k3, va_up_self, h1]
      · rw [va_up_ne _ _ k3]
theorem m_h194 {Q : Option Value → AH → Prop} {g : AH} {M : Nat → Nat} {b : Bool} {L e a u v : Nat} (hw : zWF g) (he : e < 1600) (hu : u < 40) (hv : v < 40) (ha : a < 40) (hpe : e = pr u v) (huv : u ≠ v) (hau : u ≠ a) (hav : v ≠ a) (mk : mk65 1600 M g) (hM : MI (HA f K) 1600 M) (hT : inT f K e = true) (h1T : inT f K (pr u a) = true) (h2T : inT f K (pr v a) = true) (l1 : L ≤ M e) (l2 : L ≤ M (pr u a)) (l3 : L ≤ M (pr v a)) (lin : L = M e ∨ L = M (pr u a) ∨ L = M (pr v a)) (Kf : ∀ g' b' M', zWF g' → frm [65] [] g g' → mk65 1600 M' g' → MI (HA f K) 1600 M' → (b' = false → b = false ∧ M' = M ∧ M e = M (pr u a) ∧ M e = M (pr v a)) → (b' = true → (b = true ∧ M' = M) ∨ fb_sm M' 1600 < fb_sm M 1600) → zQ none m_X11_hoodsBy (d + 2) 283 [(0, .ref 53), (1, .int K), (2, .int (bI b')), (3, .int (nI e)), (4, .int (nI a))] [] g' Q) : zQ none m_X11_hoodsBy (d + 2) 194 [(0, .ref 53), (1, .int K), (2, .int (bI b)), (3, .int (nI e)), (4, .int (nI a)), (5, .int (nI u)), (6, .int (nI v)), (7, .int (nI L))] [] g Q := by
  have hp2 := pr_lt hu ha
  have hp3 := pr_lt hv ha
  have n12 : pr u a ≠ e := fun q => by
    rw [hpe] at q
    rcases pr_inj hu ha hu hv q with ⟨_, z⟩ | ⟨z, _⟩
    · exact hav z.symm
    · exact huv z
  have n13 : pr v a ≠ e := fun q => by
    rw [hpe] at q
    rcases pr_inj hv ha hu hv q with ⟨z, _⟩ | ⟨_, z⟩
    · exact huv z.symm
    · exact hau z.symm
  have n23 : pr v a ≠ pr u a := fun q => by
    rcases pr_inj hv ha hu ha q with ⟨z, _⟩ | ⟨z, _⟩
    · exact huv z.symm
    · exact hav z
  have HM := HA_mk (f := f) (K := K) hu hv ha huv hau hav (by rw [← hpe]; exact hT) h1T h2T
  rw [← hpe] at HM
  have c2 := Cn_st HM.1
  have c3 := Cn_st HM.2
  have me := hM e he
  have m2 := hM _ hp2
  have m3 := hM _ hp3
  have ceL : Cn (HA f K) e L := by
    rcases lin with z | z | z
    · rw [z]; exact me.2
    · rw [z]; exact Cn_tr c2 m2.2
    · rw [z]; exact Cn_tr c3 m3.2
  have hMI : MI (HA f K) 1600 (up3 M e (pr u a) (pr v a) L) := mi_set (mi_set (mi_set hM ceL (by omega)) (Cn_tr (Cn_sy HA_sy c2) ceL) (by omega)) (Cn_tr (Cn_sy HA_sy c3) ceL) (by omega)
  have hsm := up3_sm (M := M) (l := L) he hp2 hp3 n12 n13 n23
  -- the three cells are written
  have W : ∀ c : Int32, (∀ h10, zWF h10 → frm [65] [] g h10 → h10.I 65 = va_up (va_up (va_up (g.I 65) e (nI L)) (pr u a) (nI L)) (pr v a) (nI L) → zQ none m_X11_hoodsBy (d + 2) 283 [(0, .ref 53), (1, .int K), (2, .int c), (3, .int (nI e)), (4, .int (nI a))] [] h10 Q) → vp_in (nI e) 1600 ∧ (∀ h4, h4 = g.sI 65 e (nI L) → zK (d + 1) m_X11_edge [.int (nI u), .int (nI a)] h4 (pI h4 fun x5 => vp_in x5 1600 ∧ (∀ h7, h7 = h4.sI 65 x5.toNatClampNeg (nI L) → zK (d + 1) m_X11_edge [.int (nI v), .int (nI a)] h7 (pI h7 fun x8 => vp_in x8 1600 ∧ (∀ h10, h10 = h7.sI 65 x8.toNatClampNeg (nI L) → zQ none m_X11_hoodsBy (d + 1 + 1) 283 [(0, .ref 53), (1, .int K), (2, .int c), (3, .int (nI e)), (4, .int (nI a))] [] h10 Q))))) := by
    intro c Kc
    refine ⟨v1600 he, fun h4 q4 => use_pI (m_edge hu ha) ⟨v1600 hp2, fun h7 q7 => use_pI (m_edge hv ha) ⟨v1600 hp3, fun h10 q10 => ?_⟩⟩⟩
    rw [cl_n hp2 (by decide)] at q7
    rw [cl_n hp3 (by decide)] at q10
    refine Kc h10 (wf_I q10 (wf_I q7 (wf_I q4 hw))) (frm_tr (frm_wI q4 (by decide)) (frm_tr (frm_wI q7 (by decide)) (frm_wI q10 (by decide)))) ?_
    rw [q10, AH.sI_I, q7, AH.sI_I, q4, AH.sI_I]
  have new : ¬ (M e = L ∧ M (pr u a) = L ∧ M (pr v a) = L) → ∀ h10, zWF h10 → frm [65] [] g h10 → h10.I 65 = va_up (va_up (va_up (g.I 65) e (nI L)) (pr u a) (nI L)) (pr v a) (nI L) → zQ none m_X11_hoodsBy (d + 2) 283 [(0, .ref 53), (1, .int K), (2, .int (bI true)), (3, .int (nI e)), (4, .int (nI a))] [] h10 Q := fun no h10 hw10 f10 e10 => Kf h10 true _ hw10 f10 (up3_mk e10 mk) hMI (fun q => by cases q) (fun _ => Or.inr (by omega))
  refine r_X11_hoodsBy_194 _ _ _ _ _ _ _ hw ⟨v1600 he, ?_⟩
  rw [cl_n he (by decide), mk e he, ne_eq, nI_eqE (by omega) (by omega), bI_or0, bI_or1]
  refine ⟨fun z => W _ (new (fun k => z k.1)), fun z => use_pI (m_edge hu ha) ⟨v1600 hp2, ?_⟩⟩
  rw [cl_n hp2 (by decide), mk _ hp2, ne_eq, nI_eqE (by omega) (by omega)]
  refine ⟨fun y => W _ (new (fun k => y k.2.1)), fun y => use_pI (m_edge hv ha) ⟨v1600 hp3, ?_⟩⟩
  rw [cl_n hp3 (by decide), mk _ hp3, nI_eqE (by omega) (by omega)]
  refine ⟨fun k => W _ (fun h10 hw10 f10 e10 => Kf h10 b M hw10 f10 (fun u hu => ?_) hM (fun q => ⟨q, rfl, by omega, by omega⟩) (fun q => Or.inl ⟨q, rfl⟩)), fun k => W _ (new (fun k2 => k k2.2.2))⟩
  have := up3_mk e10 mk u hu
  rw [up3_id z y k] at this
  exact this
theorem m_hInner {Q : Option Value → AH → Prop} {h0 : AH} {M0 : Nat → Nat} {e : Nat} (he : e < 1600) (hT : inT f K e = true) (e58 : h0.L 58 = f) (h62 : ∀ e, e < 1600 → isE f e = true → h0.I 62 e = nI (ptr f e)) (Kf : ∀ g b M, zWF g → frm [65] [] h0 g → mk65 1600 M g → PH f K M0 e 40 b M → zQ none m_X11_hoodsBy (d + 4) 289 [(0, .ref 53), (1, .int K), (2, .int (bI b)), (3, .int (nI e))] [] g Q) : ∀ a, a ≤ 40 → ∀ g b M, zWF g → frm [65] [] h0 g → mk65 1600 M g → PH f K M0 e a b M → zQ none m_X11_hoodsBy (d + 4) 58 [(0, .ref 53), (1, .int K), (2, .int (bI b)), (3, .int (nI e)), (4, .int (nI a))] [] g Q := by
  have hlt := (isE_b (inT_iff.mp hT).1).1
  have hu : e / 40 < 40 := by omega
  have hv : e % 40 < 40 := by omega
  have hpe : e = pr (e / 40) (e % 40) := by unfold pr; omega
  refine nat_down ?_ (fun a ha ih => ?_)
  · intro g b M hw fr mk ps
    exact r_X11_hoodsBy_58 _ _ _ _ hw ⟨fun _ => Kf g b M hw fr mk ps, fun z => absurd e40 z⟩
  · intro g b M hw fr mk ps
    have hle := ph_le ps
    have g58 : g.L 58 = f := by rw [frm_L fr List.not_mem_nil]; exact e58
    have g62 : ∀ e, e < 1600 → isE f e = true → g.I 62 e = nI (ptr f e) := fun e he hE => by rw [frm_I fr (by decide)]; exact h62 e he hE
    obtain ⟨s1, s2, s3⟩ := ps
    have skip : ¬ (a ≠ e / 40 ∧ a ≠ e % 40 ∧ inT f K (pr (e / 40) a) = true ∧ inT f K (pr (e % 40) a) = true) → zQ none m_X11_hoodsBy (d + 3 + 1) 283 [(0, .ref 53), (1, .int K), (2, .int (bI b)), (3, .int (nI e)), (4, .int (nI a))] [] g Q := fun no => by
      refine r_X11_hoodsBy_283 _ _ _ _ hw ?_
      rw [nI_add]
      refine ih g b M hw fr mk ⟨s1, fun q => ⟨(s2 q).1, (s2 q).2.1, fun a' ha' => ?_⟩, s3⟩
      by_cases z : a' = a
      · subst z
        exact fun k1 k2 _ k3 k4 => absurd ⟨k1, k2, k3, k4⟩ no
      · exact (s2 q).2.2 a' (by omega)
    refine r_X11_hoodsBy_58 _ _ _ _ hw ⟨fun z => absurd z (n40 ha), fun _ => ?_⟩
    rw [nI_remE (by omega) (by decide) (by decide), nI_divE (by omega) (by decide) (by decide), nI_eqE (by omega) (by omega), nI_eqE (by omega) (by omega)]
    refine ⟨fun z => skip (fun k => k.1 z), fun z1 => ⟨fun z => skip (fun k => k.2.1 z), fun z2 => use_pI (m_edge hu ha) (use_pI (m_isInTruss (d := d) (pr_lt hu ha) hw g58 g62) ⟨fun z => skip (fun k => ?_), fun z3 => use_pI (m_edge hv ha) (use_pI (m_isInTruss (d := d) (pr_lt hv ha) hw g58 g62) ⟨fun z4 => ⟨v1600 he, use_pI (m_edge hu ha) ⟨v1600 (pr_lt hu ha), ?_⟩⟩, fun z => skip (fun k => ?_)⟩)⟩)⟩⟩
    · rw [k.2.2.1] at z; exact absurd z bt0
    · have t1 : inT f K (pr (e / 40) a) = true := bTb z3
      have t2 : inT f K (pr (e % 40) a) = true := bTb z4
      have m1 := (s1 e he).1
      have m2 := (s1 _ (pr_lt hu ha)).1
      have m3 := (s1 _ (pr_lt hv ha)).1
      have hp2 := pr_lt hu ha
      have hp3 := pr_lt hv ha
      have fin : ∀ L, L ≤ M e → L ≤ M (pr (e / 40) a) → L ≤ M (pr (e % 40) a) → (L = M e ∨ L = M (pr (e / 40) a) ∨ L = M (pr (e % 40) a)) → zQ none m_X11_hoodsBy (d + 3 + 1) 194 [(0, .ref 53), (1, .int K), (2, .int (bI b)), (3, .int (nI e)), (4, .int (nI a)), (5, .int (nI (e / 40))), (6, .int (nI (e % 40))), (7, .int (nI L))] [] g Q := by
        intro L l1 l2 l3 lin
        refine m_h194 (d := d + 2) hw he hu hv ha hpe (by omega) (fun q => z1 q.symm) (fun q => z2 q.symm) mk s1 hT t1 t2 l1 l2 l3 lin (fun g' b' M' hw' fr' mk' hM' k1 k2 => r_X11_hoodsBy_283 _ _ _ _ hw' ?_)
        rw [nI_add]
        refine ih g' b' M' hw' (frm_tr fr fr') mk' ⟨hM', fun q => ?_, fun q => ?_⟩
        · obtain ⟨w1, w2, w3, w4⟩ := k1 q
          rw [w2]
          refine ⟨(s2 w1).1, (s2 w1).2.1, fun a' ha' => ?_⟩
          by_cases y : a' = a
          · subst y
            exact fun _ _ _ _ _ => ⟨w3, w4⟩
          · exact (s2 w1).2.2 a' (by omega)
        · rcases k2 q with ⟨w1, w2⟩ | w
          · rw [w2]; exact s3 w1
          · omega
      have go163 : ∀ l, l ≤ M e → l ≤ M (pr (e / 40) a) → (l = M e ∨ l = M (pr (e / 40) a)) → zQ none m_X11_hoodsBy (d + 3 + 1) 163 [(0, .ref 53), (1, .int K), (2, .int (bI b)), (3, .int (nI e)), (4, .int (nI a)), (5, .int (nI (e / 40))), (6, .int (nI (e % 40))), (7, .int (nI l))] [] g Q := by
        intro l l1 l2 lin
        refine r_X11_hoodsBy_163 _ _ _ _ _ _ _ hw (use_pI (m_edge hv ha) ⟨v1600 hp3, ?_⟩)
        rw [cl_n hp3 (by decide), mk _ hp3, nI_leE (by omega) (by omega)]
        refine ⟨fun y => fin l l1 l2 y (by rcases lin with w | w <;> omega), fun y => use_pI (m_edge hv ha) ⟨v1600 hp3, ?_⟩⟩
        rw [cl_n hp3 (by decide), mk _ hp3]
        exact fin _ (by omega) (by omega) (Nat.le_refl _) (Or.inr (Or.inr rfl))
      rw [cl_n hp2 (by decide), cl_n he (by decide), mk _ hp2, mk _ he, nI_leE (by omega) (by omega)]
      refine ⟨fun y => go163 _ (Nat.le_refl _) y (Or.inl rfl), fun y => use_pI (m_edge hu ha) ⟨v1600 hp2, ?_⟩⟩
      rw [cl_n hp2 (by decide), mk _ hp2]
      exact go163 _ (by omega) (Nat.le_refl _) (Or.inr rfl)
    · rw [k.2.2.2] at z; exact absurd z bt0
theorem m_hPass {Q : Option Value → AH → Prop} {h0 : AH} {M0 : Nat → Nat} (e58 : h0.L 58 = f) (h62 : ∀ e, e < 1600 → isE f e = true → h0.I 62 e = nI (ptr f e)) (Kf : ∀ g b M, zWF g → frm [65] [] h0 g → mk65 1600 M g → PH f K M0 1600 0 b M → zQ none m_X11_hoodsBy (d + 4) 28 [(0, .ref 53), (1, .int K), (2, .int (bI b))] [] g Q) : ∀ e, e ≤ 1600 → ∀ g b M, zWF g → frm [65] [] h0 g → mk65 1600 M g → PH f K M0 e 0 b M → zQ none m_X11_hoodsBy (d + 4) 36 [(0, .ref 53), (1, .int K), (2, .int (bI b)), (3, .int (nI e))] [] g Q := by
  refine nat_down ?_ (fun e he ih => ?_)
  · intro g b M hw fr mk ps
    exact r_X11_hoodsBy_36 _ _ _ hw ⟨fun _ => Kf g b M hw fr mk ps, fun z => absurd ((nI_leE (by decide) (by decide)).mpr (Nat.le_refl _)) z⟩
  · intro g b M hw fr mk ps
    have g58 : g.L 58 = f := by rw [frm_L fr List.not_mem_nil]; exact e58
    have g62 : ∀ e, e < 1600 → isE f e = true → g.I 62 e = nI (ptr f e) := fun e he hE => by rw [frm_I fr (by decide)]; exact h62 e he hE
    have next : ∀ g b M, zWF g → frm [65] [] h0 g → mk65 1600 M g → MI (HA f K) 1600 M → (b = false → M = M0 ∧ (∀ e', e' < e + 1 → ∀ a', a' < 40 → stE f K M e' a')) → (b = true → fb_sm M 1600 < fb_sm M0 1600) → zQ none m_X11_hoodsBy (d + 3 + 1) 289 [(0, .ref 53), (1, .int K), (2, .int (bI b)), (3, .int (nI e))] [] g Q := by
      intro g b M hw fr mk k1 k2 k3
      refine r_X11_hoodsBy_289 _ _ _ hw ?_
      rw [nI_add]
      exact ih g b M hw fr mk ⟨k1, fun q => ⟨(k2 q).1, (k2 q).2, fun a' ha' => absurd ha' (Nat.not_lt_zero _)⟩, k3⟩
    refine r_X11_hoodsBy_36 _ _ _ hw ⟨fun z => absurd ((nI_leE (by decide) (by omega)).mp z) (by omega), fun _ => use_pI (m_isInTruss (d := d) he hw g58 g62) ⟨fun z => ?_, fun z => ?_⟩⟩
    · have hT : inT f K e = true := bTb z
      refine m_hInner (d := d) (M0 := M0) he hT e58 h62 (fun g b M hw fr mk ps => next g b M hw fr mk ps.1 (fun q => ⟨(ps.2.1 q).1, fun e' he' => ?_⟩) ps.2.2) 0 (Nat.zero_le _) g b M hw fr mk ps
      by_cases y : e' = e
      · subst y; exact (ps.2.1 q).2.2
      · exact (ps.2.1 q).2.1 e' (by omega)
    · have hn : inT f K e = false := bFb z
      refine next g b M hw fr mk ps.1 (fun q => ⟨(ps.2.1 q).1, fun e' he' a' ha' => ?_⟩) ps.2.2
      by_cases y : e' = e
      · subst y
        intro _ _ k _ _
        rw [hn] at k; cases k
      · exact (ps.2.1 q).2.1 e' (by omega) a' ha'
theorem m_hMarks {Q : Option Value → AH → Prop} {h0 : AH} (e58 : h0.L 58 = f) (h62 : ∀ e, e < 1600 → isE f e = true → h0.I 62 e = nI (ptr f e)) (Kf : ∀ g M, zWF g → frm [65] [] h0 g → mk65 1600 M g → MI (HA f K) 1600 M → (∀ x y, HA f K x y → M x = M y) → Q none g) : ∀ n g M, fb_sm M 1600 ≤ n → zWF g → frm [65] [] h0 g → mk65 1600 M g → MI (HA f K) 1600 M → zQ none m_X11_hoodsBy (d + 4) 28 [(0, .ref 53), (1, .int K), (2, .int (nI 1))] [] g Q := by
  have fin : ∀ (M0 : Nat → Nat) g b M, zWF g → frm [65] [] h0 g → mk65 1600 M g → PH f K M0 1600 0 b M → (b = true → ∀ g, zWF g → frm [65] [] h0 g → mk65 1600 M g → zQ none m_X11_hoodsBy (d + 4) 28 [(0, .ref 53), (1, .int K), (2, .int (nI 1))] [] g Q) → zQ none m_X11_hoodsBy (d + 4) 28 [(0, .ref 53), (1, .int K), (2, .int (bI b))] [] g Q := by
    intro M0 g b M hw fr mk ps K2
    cases b with
    | true => exact K2 rfl g hw fr mk
    | false =>
      obtain ⟨s1, s2, s3⟩ := ps
      refine r_X11_hoodsBy_28 _ _ hw ⟨fun _ => Kf g M hw fr mk s1 (fun x y hxy => ?_), fun z => absurd bf0 z⟩
      obtain ⟨u, v, w, h1, h2, h3, h4, h5, h6, h7, h8, h9, h10, h11⟩ := hxy
      obtain ⟨d1, d2⟩ := pr_div h1 h2
      have := (s2 rfl).2.1 (pr u v) (pr_lt h1 h2) w h3
      unfold stE at this
      rw [d1, d2] at this
      rw [h10, h11]
      rcases Nat.lt_or_gt_of_ne h4 with z | z
      · rw [Nat.min_eq_left (by omega), Nat.max_eq_right (by omega)] at this
        exact (this (fun q => h5 q.symm) (fun q => h6 q.symm) h7 h8 h9).1
      · rw [Nat.min_eq_right (by omega), Nat.max_eq_left (by omega)] at this
        exact (this (fun q => h6 q.symm) (fun q => h5 q.symm) h7 h9 h8).2
  intro n
  induction n with
  | zero =>
    intro g M hn hw fr mk hM
    refine r_X11_hoodsBy_28 _ _ hw ⟨fun z => absurd z i1_ne0, fun _ => ?_⟩
    exact m_hPass (d := d) (M0 := M) e58 h62 (fun g b M' hw fr mk ps => fin M g b M' hw fr mk ps (fun q => absurd (ps.2.2 q) (by omega))) 0 (Nat.zero_le _) g false M hw fr mk ⟨hM, fun _ => ⟨rfl, fun e' he' => absurd he' (Nat.not_lt_zero _), fun a' ha' => absurd ha' (Nat.not_lt_zero _)⟩, (fun q => by cases q)⟩
  | succ n ih =>
    intro g M hn hw fr mk hM
    refine r_X11_hoodsBy_28 _ _ hw ⟨fun z => absurd z i1_ne0, fun _ => ?_⟩
    exact m_hPass (d := d) (M0 := M) e58 h62 (fun g b M' hw fr mk ps => fin M g b M' hw fr mk ps (fun q g hw fr mk => ih g M' (by have := ps.2.2 q; omega) hw fr mk ps.1)) 0 (Nat.zero_le _) g false M hw fr mk ⟨hM, fun _ => ⟨rfl, fun e' he' => absurd he' (Nat.not_lt_zero _), fun a' ha' => absurd ha' (Nat.not_lt_zero _)⟩, (fun q => by cases q)⟩
def hbf (h h' : AH) : Prop := frm [53, 62, 63, 64, 65] [61] h h' ∧ ∀ j, j ≠ 16 → h'.I 53 j = h.I 53 j
theorem m_hoodsBy {h : AH} (hf : GF f) (hw : zWF h) (e58 : h.L 58 = f) (e5 : h.I 54 5 = nI (ecn f)) : zK (d + 6) m_X11_hoodsBy [.ref 53, .int K] h (kV (fun h' => ∃ M, mk65 1600 M h' ∧ MI (HA f K) 1600 M ∧ (∀ x y, HA f K x y → M x = M y) ∧ (∀ e, e < 1600 → isE f e = true → h'.I 62 e = nI (ptr f e)) ∧ hbf h h')) := by
  refine r_X11_hoodsBy_0 _ hw (use_kV (m_peels (d := d) hf hw e58 e5) (fun h2 hw2 ⟨b1, b2⟩ => ?_))
  have h62 : ∀ e, e < 1600 → isE f e = true → h2.I 62 e = nI (ptr f e) := fun e he hE => PF_tr hf b1 he hE
  have e58' : h2.L 58 = f := by rw [frm_L b2.1 (by decide)]; exact e58
  have fb : ∀ g, frm [65] [] h2 g → hbf h g := fun g fr => ⟨frm_tr (frm_up b2.1 (by decide) (by decide)) (frm_up fr (by decide) (by decide)), fun j hj => by rw [frm_I fr (by decide)]; exact b2.2 j hj⟩
  have fill : ∀ u, u ≤ 1600 → ∀ g, zWF g → frm [65] [] h2 g → mk65 u id g → zQ none m_X11_hoodsBy (d + 5 + 1) 6 [(0, .ref 53), (1, .int K), (2, .int (nI u))] [] g (kV (fun h' => ∃ M, mk65 1600 M h' ∧ MI (HA f K) 1600 M ∧ (∀ x y, HA f K x y → M x = M y) ∧ (∀ e, e < 1600 → isE f e = true → h'.I 62 e = nI (ptr f e)) ∧ hbf h h')) := by
    refine nat_down ?_ (fun u hu ih => ?_)
    · intro g hg fg mg
      refine r_X11_hoodsBy_6 _ _ hg ⟨fun _ => ?_, fun z => absurd ((nI_leE (by decide) (by decide)).mpr (Nat.le_refl _)) z⟩
      refine m_hMarks (d := d + 2) e58' h62 (fun g' M hw' fr mk hM st => mk_kV hw' ⟨M, mk, hM, st, fun e he hE => by rw [frm_I fr (by decide)]; exact h62 e he hE, fb g' fr⟩) (fb_sm id 1600) g id (Nat.le_refl _) hg fg mg (fun u _ => ⟨Nat.le_refl _, Cn_rf⟩)
    · intro g hg fg mg
      refine r_X11_hoodsBy_6 _ _ hg ⟨fun z => absurd ((nI_leE (by decide) (by omega)).mp z) (by omega), fun _ => ⟨v1600 hu, fun h3 q3 => ?_⟩⟩
      rw [cl_n hu (by decide)] at q3
      rw [nI_add]
      refine ih h3 (wf_I q3 hg) (frm_tr fg (frm_wI q3 (by decide))) (fun w hw3 => ?_)
      rw [q3, AH.sI_I]
      by_cases e : w = u
      · rw [e, va_up_self]; rfl
      · rw [va_up_ne _ _ e]; exact mg w (by omega)
  exact fill 0 (Nat.zero_le _) h2 hw2 frm_rf (fun w hw3 => absurd hw3 (Nat.not_lt_zero _))
end HOODM
