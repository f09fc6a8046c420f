/-! the class's peeling: gathering -/
theorem v780 {i : Nat} (h : i < 780) : vp_in (nI i) 780 := vp_in_nI h (by decide)
def gIn (f : Nat → Int64) (E : Nat) (h : AH) : Prop := h.I 12 8 = nI (fb_ct (isE f) E) ∧ ∀ e, e < E → isE f e = true → h.I 18 (fb_ct (isE f) e) = nI e ∧ h.I 15 e = nI (sup f e)
theorem isE_skip (f : Nat → Int64) {u k : Nat} (hu : u < 40) (hk : k ≤ u) : isE f (40 * u + k) = false := by
  unfold isE
  rw [decide_eq_false (show ¬ (40 * u + k) / 40 < (40 * u + k) % 40 by omega), Bool.false_and]
theorem gIn_skip {f : Nat → Int64} {E : Nat} {h : AH} (hz : isE f E = false) (q : gIn f E h) : gIn f (E + 1) h := by
  refine ⟨?_, fun e he hE => ?_⟩
  · rw [fb_ct_succ, hz]; exact q.1
  · by_cases z : e = E
    · rw [z, hz] at hE; cases hE
    · exact q.2 e (by omega) hE
theorem fbE_lt {f : Nat → Int64} {e : Nat} (he : e < 1600) (hE : isE f e = true) : fb_ct (isE f) e < ecn f := by
  have h1 : fb_ct (isE f) (e + 1) ≤ fb_ct (isE f) 1600 := fb_ct_mono _ (by omega)
  rw [fb_ct_succ, hE, if_pos rfl] at h1
  unfold ecn
  omega
theorem fbE_inj {f : Nat → Int64} {e E : Nat} (h : e < E) (hE : isE f e = true) : fb_ct (isE f) e ≠ fb_ct (isE f) E := by
  have h1 : fb_ct (isE f) (e + 1) ≤ fb_ct (isE f) E := fb_ct_mono _ (by omega)
  rw [fb_ct_succ, hE, if_pos rfl] at h1
  omega
section GATHER
variable {d : Nat} {f : Nat → Int64}
theorem c_gLoop {Q : Option Value → AH → Prop} {h0 : AH} (hs : ∀ k, k < 40 → h0.L 13 k = f k) (K : ∀ g, zWF g → gIn f 1600 g → frm [12, 15, 18] [] h0 g → Q none g) : ∀ u, u ≤ 40 → ∀ g, zWF g → gIn f (40 * u) g → frm [12, 15, 18] [] h0 g → zQ none m_X6_gather (d + 4) 22 [(0, .ref 12), (1, .int (nI u))] [] g Q := by
  refine nat_down ?_ (fun u hu ih => ?_)
  · intro g hw q fr
    exact r_X6_gather_22 _ hw ⟨fun _ => K g hw q fr, fun z => absurd e40 z⟩
  · intro g hw q fr
    refine r_X6_gather_22 _ hw ⟨fun z => absurd z (n40 hu), fun _ => ?_⟩
    rw [nI_add]
    have B : ∀ v, v ≤ 40 → u < v → ∀ g, zWF g → gIn f (40 * u + v) g → frm [12, 15, 18] [] h0 g → zQ none m_X6_gather (d + 3 + 1) 32 [(0, .ref 12), (1, .int (nI u)), (2, .int (nI v))] [] g Q := by
      refine nat_down ?_ (fun v hv ih2 => ?_)
      · intro _ g hw q fr
        refine r_X6_gather_32 _ _ hw ⟨fun _ => ?_, fun z => absurd e40 z⟩
        rw [nI_add]
        exact ih g hw (by rw [show 40 * (u + 1) = 40 * u + 40 by omega]; exact q) fr
      · intro huv g hw q fr
        have ee : isE f (40 * u + v) = gb (f u) v := by
          unfold isE
          rw [show (40 * u + v) / 40 = u by omega, show (40 * u + v) % 40 = v by omega, decide_eq_true huv, Bool.true_and]
        have es : sup f (40 * u + v) = pc (f u &&& f v) := by
          unfold sup
          rw [show (40 * u + v) / 40 = u by omega, show (40 * u + v) % 40 = v by omega]
        have g13 : ∀ k, k < 40 → g.L 13 k = f k := fun k hk => by rw [frm_L fr List.not_mem_nil]; exact hs k hk
        refine r_X6_gather_32 _ _ hw ⟨fun z => absurd z (n40 hv), fun _ => ⟨vi40 hu, ?_⟩⟩
        rw [cl40 hu, g13 u hu, nI_add]
        refine use_pI (c_hasBit (by omega)) ⟨fun z => ?_, fun z => ?_⟩
        · exact ih2 (by omega) g hw (gIn_skip (E := 40 * u + v) (ee.trans (bF z)) q) fr
        · have hE : isE f (40 * u + v) = true := by rw [ee]; exact bT z
          have hlt := fbE_lt (show 40 * u + v < 1600 by omega) hE
          have hm := ecn_le f
          have hc := q.1
          generalize hN : fb_ct (isE f) (40 * u + v) = N at hlt hc
          rw [hc]
          refine ⟨fun y => absurd ((nI_leE (by omega) (by omega)).mp y) (by omega), fun _ => use_pI (c_pairOf hu hv) ⟨v780 (by omega), fun h8 q8 => ?_⟩⟩
          have hp : pr u v = 40 * u + v := by unfold pr; omega
          rw [cl_n (show N < 780 by omega) (by decide), hp] at q8
          have hw8 := wf_I q8 hw
          have f8 : frm [12, 15, 18] [] h0 h8 := frm_tr fr (frm_wI q8 (by decide))
          refine use_pI (c_shared (sh_13 hw8) hu hv) ⟨by rw [hp]; exact v1600 (by omega), fun h11 q11 h12 q12 => ?_⟩
          rw [hp, cl_n (show 40 * u + v < 1600 by omega) (by decide), frm_L f8 List.not_mem_nil, hs u hu, hs v hv, ← es] at q11
          have hw11 := wf_I q11 hw8
          have x12 : h11.I 12 8 = nI N := by rw [sI_r q11 (by decide), sI_r q8 (by decide)]; exact hc
          rw [x12, nI_add] at q12
          refine ih2 (by omega) h12 (wf_I q12 hw11) ⟨?_, fun e he hE2 => ?_⟩ (frm_tr f8 (frm_tr (frm_wI q11 (by decide)) (frm_wI q12 (by decide))))
          · show h12.I 12 8 = nI (fb_ct (isE f) (40 * u + v + 1))
            rw [fb_ct_succ, hE, if_pos rfl, hN]
            exact sI_e q12
          · rw [sI_r q12 (show 18 ≠ 12 by decide), sI_r q12 (show 15 ≠ 12 by decide), sI_r q11 (show 18 ≠ 15 by decide), q11, q8, AH.sI_I, AH.sI_I]
            by_cases z2 : e = 40 * u + v
            · subst z2
              rw [hN, va_up_self, va_up_self]
              exact ⟨rfl, rfl⟩
            · have he2 : e < 40 * u + v := by omega
              have hne := fbE_inj he2 hE2
              rw [hN] at hne
              rw [va_up_ne _ _ hne, va_up_ne _ _ z2, sI_n (show 15 ≠ 18 by decide)]
              exact q.2 e he2 hE2
    have sk : ∀ k, k ≤ u + 1 → gIn f (40 * u + k) g := by
      intro k
      induction k with
      | zero => intro _; exact q
      | succ k ih3 => intro hk; exact gIn_skip (isE_skip f hu (by omega)) (ih3 (by omega))
    exact B (u + 1) (by omega) (by omega) g hw (sk (u + 1) (Nat.le_refl _)) fr
theorem c_gather {h : AH} (hw : zWF h) (hs : ∀ k, k < 40 → h.L 13 k = f k) : zK (d + 4) m_X6_gather [.ref 12] h (kV (fun h' => gIn f 1600 h' ∧ (∀ k, k < 40 → h'.L 14 k = f k) ∧ frm [12, 15, 18] [14] h h')) := by
  refine r_X6_gather_0 hw ⟨⟨by decide, by decide, by decide, by decide, by decide⟩, fun h2 q2 h3 q3 => ?_⟩
  rw [k0, cl_40] at q2
  have hw3 := wf_I q3 (wf_L q2 hw)
  have l14 : ∀ k, k < 40 → h3.L 14 k = f k := fun k hk => by
    rw [q3]
    show h2.L 14 k = f k
    rw [q2, AH.wL_L, cpy0 hk]; exact hs k hk
  have l13 : h3.L 13 = h.L 13 := by rw [q3, q2]; rfl
  refine c_gLoop (h0 := h3) (fun k hk => by rw [l13]; exact hs k hk) (fun g hg q fr => mk_kV hg ⟨q, fun k hk => by rw [frm_L fr List.not_mem_nil]; exact l14 k hk, frm_tr (frm_wL q2 (by decide)) (frm_tr (frm_wI q3 (by decide)) (frm_up fr (by decide) (by decide)))⟩) 0 (Nat.zero_le _) h3 hw3 ⟨sI_e q3, fun e he => absurd he (Nat.not_lt_zero _)⟩ frm_rf
/-- the places from t on hold the edges that are left, each once -/
def oIn (f : Nat → Int64) (t : Nat) (o : Nat → Nat) : Prop := (∀ i, t ≤ i → i < ecn f → o i < 1600 ∧ isE (plG f t) (o i) = true) ∧ (∀ e, e < 1600 → isE (plG f t) e = true → ∃ i, t ≤ i ∧ i < ecn f ∧ o i = e) ∧ ∀ i j, t ≤ i → i < ecn f → t ≤ j → j < ecn f → o i = o j → i = j
theorem gIn_o {h : AH} (q : gIn f 1600 h) : ∃ o, (∀ i, i < ecn f → h.I 18 i = nI (o i)) ∧ oIn f 0 o := by
  have ex : ∀ i, i < ecn f → ∃ e, e < 1600 ∧ isE f e = true ∧ fb_ct (isE f) e = i := fun i hi => fb_ct_kth hi
  have val : ∀ i, i < ecn f → ∃ e, (h.I 18 i).toNatClampNeg = e ∧ e < 1600 ∧ isE f e = true ∧ fb_ct (isE f) e = i ∧ h.I 18 i = nI e := fun i hi => by
    obtain ⟨e, e1, e2, e3⟩ := ex i hi
    have := (q.2 e e1 e2).1
    rw [e3] at this
    exact ⟨e, by rw [this]; exact nI_clampE (by omega), e1, e2, e3, this⟩
  refine ⟨fun i => (h.I 18 i).toNatClampNeg, fun i hi => ?_, fun i _ hi => ?_, fun e he hE => ?_, fun i j _ hi _ hj hij => ?_⟩
  · obtain ⟨e, e0, e1, e2, e3, e4⟩ := val i hi
    show h.I 18 i = nI (h.I 18 i).toNatClampNeg
    rw [e0]; exact e4
  · obtain ⟨e, e0, e1, e2, e3, e4⟩ := val i hi
    show (h.I 18 i).toNatClampNeg < 1600 ∧ isE f (h.I 18 i).toNatClampNeg = true
    rw [e0]; exact ⟨e1, e2⟩
  · have hE : isE f e = true := hE
    have := (q.2 e he hE).1
    refine ⟨fb_ct (isE f) e, Nat.zero_le _, fbE_lt he hE, ?_⟩
    show (h.I 18 (fb_ct (isE f) e)).toNatClampNeg = e
    rw [this]; exact nI_clampE (by omega)
  · obtain ⟨e, e0, e1, e2, e3, e4⟩ := val i hi
    obtain ⟨e', e0', e1', e2', e3', e4'⟩ := val j hj
    have hij : (h.I 18 i).toNatClampNeg = (h.I 18 j).toNatClampNeg := hij
    rw [e0, e0'] at hij
    rw [← e3, ← e3', hij]
end GATHER
