/-! TRUSS, EDGE, PEELED in pairs -/
def inT (f : Nat → Int64) (K : Int32) (e : Nat) : Bool := isE f e && decide (¬ nI (ptr f e) < K)
def plI : List Nat := [12, 15, 16, 17, 18, 19, 20, 53, 62, 63, 64, 65]
def plL : List Nat := [13, 14, 61]
theorem PF_same {f : Nat → Int64} (hf : GF f) {A B C A' B' C' : Nat → Int32} (h : PF f (ecn f) A B C) (h' : PF f (ecn f) A' B' C') {e : Nat} (he : e < 1600) (hE : isE f e = true) : B e = B' e := by
  obtain ⟨s, hs, q⟩ := pl_all hf he hE
  rw [q, (h s hs).2.1, (h' s hs).2.1]
section TRUSS
variable {d : Nat} {h : AH} {c : Nat} {f : Nat → Int64}
theorem c_edgesFrom (hf : GF f) (K : Int32) (hw : zWF h) (hP : PLF f h) : zK (d + 1) m_X6_edgesFrom [.ref 12, .int K] h (pI h (fun x => x = nI (fb_ct (inT f K) 1600))) := by
  obtain ⟨p1, p2, p3⟩ := hP
  have hm := ecn_le f
  have e : fb_ct (inT f K) 1600 = fb_ct (fun i => decide (¬ nI (ptr f (plE f i)) < K)) (ecn f) := (pl_cnt hf (fun e => decide (¬ nI (ptr f e) < K))).symm
  rw [e]
  refine r_X6_edgesFrom_0 _ hw ?_
  have key : ∀ i, i ≤ ecn f → zQ none m_X6_edgesFrom (d + 1) 4 [(0, .ref 12), (1, .int K), (2, .int (nI (fb_ct (fun i => decide (¬ nI (ptr f (plE f i)) < K)) i))), (3, .int (nI i))] [] h (pI h (fun x => x = nI (fb_ct (fun i => decide (¬ nI (ptr f (plE f i)) < K)) (ecn f)))) := by
    refine nat_down ?_ (fun i hi ih => ?_)
    · exact r_X6_edgesFrom_4 _ _ _ hw ⟨fun _ => mk_pI rfl, fun z => absurd (by rw [p2]; exact (nI_leE (by omega) (by omega)).mpr (Nat.le_refl _)) z⟩
    · obtain ⟨a1, a2, a3⟩ := p3 i hi
      have hb := (plE_ok hf hi).1
      refine r_X6_edgesFrom_4 _ _ _ hw ⟨fun z => absurd (by rw [p2] at z; exact (nI_leE (by omega) (by omega)).mp z) (show ¬ ecn f ≤ i by omega), fun _ => ⟨v780 (by omega), ?_⟩⟩
      rw [cl_n (show i < 780 by omega) (by decide), a3, cl_n hb (by decide), a1, ← ptr_at hf hi, nI_add, nI_add]
      rw [fb_ct_succ] at ih
      refine ⟨v1600 hb, fun z => ?_, fun z => ?_⟩
      · rw [if_neg (by rw [decide_eq_true_iff]; exact fun q => q z), Nat.add_zero] at ih
        exact ih
      · rw [if_pos (by rw [decide_eq_true_iff]; exact z)] at ih
        exact ih
  exact key 0 (Nat.zero_le _)
end TRUSS
