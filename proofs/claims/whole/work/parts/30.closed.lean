/-! how closed: two greatest divisors -/
theorem lN_div {a b : Nat} (ha : a < 2 ^ 31) (hb : b < 2 ^ 31) : lN a / lN b = lN (a / b) := by
  apply Int64.toInt_inj.mp
  have hd : a / b < 2 ^ 31 := Nat.lt_of_le_of_lt (Nat.div_le_self a b) ha
  rw [Int64.toInt_div, lN_toInt ha, lN_toInt hb, lN_toInt hd, ← Int.ofNat_tdiv]
  generalize a / b = t at hd
  exact Int.bmod_eq_of_le (by omega) (by omega)
theorem lN_rem {a b : Nat} (ha : a < 2 ^ 31) (hb : b < 2 ^ 31) : lN a - lN a / lN b * lN b = lN (a % b) := by
  rw [lN_div ha hb, lN_mul, lN_sub (Nat.div_mul_le_self a b)]
  exact congrArg lN (by have := Nat.div_add_mod' a b; omega)
def clo (A B : Nat) (p : Int32) : Int64 := if B = 0 then (-9223372036854775808 : Int64) else if p = 0 then lN (A / Nat.gcd A B) else lN (B / Nat.gcd A B)
section CLOSED
variable {d : Nat} {h : AH} {c : Nat}
theorem c_gdLoop : ∀ n i, i + n = 100 → ∀ a b, b ≤ a → a < 2147483648 → a * b < 2 ^ n → zQ none m_X10_greatestDivisor (d + 1) 7 [(2, .int (nI a)), (3, .int (nI b)), (4, .int (nI i))] [] h (pI h (fun x => x = nI (Nat.gcd a b))) := by
  intro n
  induction n with
  | zero =>
    intro i hi a b hba ha hab
    have hb : b = 0 := by
      rcases Nat.eq_zero_or_pos b with z | z
      · exact z
      · have : 1 * 1 ≤ a * b := Nat.mul_le_mul (by omega) z
        omega
    subst hb
    rw [Nat.add_zero] at hi
    subst hi
    exact r_X10_greatestDivisor_7 _ _ _ ⟨fun _ => mk_pI (by rw [Nat.gcd_zero_right]), fun q => absurd ((nI_leE (by decide) (by decide)).mpr (Nat.le_refl _)) q⟩
  | succ n ih =>
    intro i hi a b hba ha hab
    refine r_X10_greatestDivisor_7 _ _ _ ⟨fun q => absurd ((nI_leE (by decide) (by omega)).mp q) (by omega), fun _ => ⟨fun q => mk_pI ?_, fun q => ?_⟩⟩
    · rw [nI_le0 (by omega)] at q
      rw [q, Nat.gcd_zero_right]
    · rw [nI_le0 (by omega)] at q
      have hr : a % b < b := Nat.mod_lt _ (by omega)
      rw [nI_remE (by omega) (by omega) (by omega), nI_add]
      refine ⟨nI_ne0 (by omega) (by omega), ?_⟩
      have e : Nat.gcd b (a % b) = Nat.gcd a b := by rw [Nat.gcd_comm b (a % b), ← Nat.gcd_rec, Nat.gcd_comm]
      rw [← e]
      refine ih (i + 1) (by omega) b (a % b) (by omega) (by omega) ?_
      have h1 : a / b * b + a % b = a := Nat.div_add_mod' a b
      have h2 : 1 ≤ a / b := Nat.div_pos hba (by omega)
      have h3 : 1 * b ≤ a / b * b := Nat.mul_le_mul_right b h2
      have h4 : 2 * (a % b) ≤ a := by omega
      have h5 : 2 * (a % b) * b ≤ a * b := Nat.mul_le_mul_right b h4
      have h6 : 2 * (a % b) * b = 2 * (b * (a % b)) := by rw [Nat.mul_assoc, Nat.mul_comm (a % b) b]
      rw [Nat.pow_succ] at hab
      omega
theorem c_gd {a b : Nat} (ha : a < 1048576) (hb : b < 1048576) : zK (d + 1) m_X10_greatestDivisor [.int (nI a), .int (nI b)] h (pI h (fun x => x = nI (Nat.gcd a b))) := by
  have hab : a * b < 2 ^ 40 := Nat.lt_of_le_of_lt (Nat.mul_le_mul (show a ≤ 1048575 by omega) (show b ≤ 1048575 by omega)) (by decide)
  refine r_X10_greatestDivisor_0 _ _ ?_
  by_cases hba : b ≤ a
  · exact c_gdLoop 100 0 rfl a b hba (by omega) (Nat.lt_of_lt_of_le hab (Nat.pow_le_pow_right (by decide) (by decide)))
  · refine r_X10_greatestDivisor_7 _ _ _ ⟨fun q => absurd ((nI_leE (by decide) (by decide)).mp q) (by decide), fun _ => ⟨fun q => absurd ((nI_le0 (by omega)).mp q) (by omega), fun _ => ⟨nI_ne0 (by omega) (by omega), ?_⟩⟩⟩
    rw [nI_remE (by omega) (by omega) (by omega), nI_add, Nat.mod_eq_of_lt (by omega), Nat.gcd_comm]
    refine c_gdLoop 99 1 rfl b a (by omega) (by omega) ?_
    rw [Nat.mul_comm]
    exact Nat.lt_of_lt_of_le hab (Nat.pow_le_pow_right (by decide) (by decide))
theorem m_gcdLoop : ∀ n b, b ≤ n → ∀ a, a < 2147483648 → b < 2147483648 → zQ none m_X11_gcd (d + 1) 6 [(4, .long (lN a)), (6, .long (lN b))] [] h (pL h (fun x => x = lN (Nat.gcd a b))) := by
  intro n
  induction n with
  | zero =>
    intro b hb a ha _
    have hb : b = 0 := by omega
    subst hb
    exact r_X11_gcd_6 _ _ ⟨fun _ => mk_pL (by rw [Nat.gcd_zero_right]), fun q => absurd ((lg_cmp0 _ _).mpr rfl) q⟩
  | succ n ih =>
    intro b hb a ha hbb
    refine r_X11_gcd_6 _ _ ⟨fun q => mk_pL ?_, fun q => ⟨fun z => q ((lg_cmp0 _ _).mpr z), ?_⟩⟩
    · rw [lg_cmp0] at q
      have : b = 0 := (lN_eq (by omega) (by decide)).mp (show lN b = lN 0 from q)
      rw [this, Nat.gcd_zero_right]
    · have h0 : b ≠ 0 := fun z => q (by rw [lg_cmp0, z]; rfl)
      have hr : a % b < b := Nat.mod_lt _ (by omega)
      rw [lN_rem (by omega) (by omega)]
      have e : Nat.gcd b (a % b) = Nat.gcd a b := by rw [Nat.gcd_comm b (a % b), ← Nat.gcd_rec, Nat.gcd_comm]
      rw [← e]
      exact ih (a % b) (by omega) b (by omega) (by omega)
theorem m_gcd {a b : Nat} (ha : a < 1048576) (hb : b < 1048576) : zK (d + 1) m_X11_gcd [.long (lN a), .long (lN b)] h (pL h (fun x => x = lN (Nat.gcd a b))) :=
  r_X11_gcd_0 _ _ (m_gcdLoop b b (Nat.le_refl _) a (by omega) (by omega))
theorem c_cloTail {A B : Nat} {p : Int32} {Q : Option Value → AH → Prop} (hA : A < 1048576) (hB : B < 1048576) (hQ : Q (some (.long (clo A B p))) h) : zK (d + 1) m_X10_greatestDivisor [.int (nI A), .int (nI B)] h (pI h fun x9 => (nI B < (nI 1) → Q (some (.long (-9223372036854775808 : Int64))) h) ∧ (¬ nI B < (nI 1) → ((nI 1) ≤ x9 → (p ≠ 0 → ¬ x9 = 0 ∧ (Q (some (.long ((nI B / x9).toInt64))) h)) ∧ (p = 0 → ¬ x9 = 0 ∧ (Q (some (.long ((nI A / x9).toInt64))) h))) ∧ (¬ (nI 1) ≤ x9 → Q (some (.long (-9223372036854775808 : Int64))) h))) := by
  refine use_pI (c_gd hA hB) ?_
  rw [nI_ltE (by omega) (by decide)]
  refine ⟨fun q => ?_, fun q => ⟨fun z => ⟨fun y => ?_, fun y => ?_⟩, fun z => ?_⟩⟩
  · rw [clo, if_pos (by omega)] at hQ; exact hQ
  all_goals
    have hg : 0 < Nat.gcd A B := Nat.gcd_pos_of_pos_right A (by omega)
    have hgl : Nat.gcd A B ≤ B := Nat.gcd_le_right A (by omega)
  · refine ⟨nI_ne0 hg (by omega), ?_⟩
    rw [clo, if_neg (by omega), if_neg y] at hQ
    rw [nI_divE (by omega) hg (by omega), nI_l (Nat.lt_of_le_of_lt (Nat.div_le_self _ _) (by omega))]
    exact hQ
  · refine ⟨nI_ne0 hg (by omega), ?_⟩
    rw [clo, if_neg (by omega), if_pos y] at hQ
    rw [nI_divE (by omega) hg (by omega), nI_l (Nat.lt_of_le_of_lt (Nat.div_le_self _ _) (by omega))]
    exact hQ
  · exact absurd ((nI_leE (by decide) (by omega)).mpr hg) z
theorem m_cloTail {A B : Nat} {p : Int32} {Q : Option Value → AH → Prop} (hA : A < 1048576) (hB : B < 1048576) (h0 : B ≠ 0) (hQ : Q (some (.long (clo A B p))) h) : (p ≠ 0 → zK (d + 1) m_X11_gcd [.long (lN B), .long (lN A)] h (pL h fun x11 => ¬ x11 = 0 ∧ (Q (some (.long (lN B / x11))) h))) ∧ (p = 0 → zK (d + 1) m_X11_gcd [.long (lN B), .long (lN A)] h (pL h fun x13 => ¬ x13 = 0 ∧ (Q (some (.long (lN A / x13))) h))) := by
  have hg : 0 < Nat.gcd A B := Nat.gcd_pos_of_pos_right A (by omega)
  have hgl : Nat.gcd A B ≤ B := Nat.gcd_le_right A (by omega)
  have hne : ¬ lN (Nat.gcd A B) = 0 := fun z => absurd ((lN_eq (by omega) (by decide)).mp (show lN _ = lN 0 from z)) (by omega)
  refine ⟨fun y => use_pL (m_gcd hB hA) ?_, fun y => use_pL (m_gcd hB hA) ?_⟩
  · rw [Nat.gcd_comm, lN_div (by omega) (by omega)]
    refine ⟨hne, ?_⟩
    rw [clo, if_neg h0, if_neg y] at hQ
    exact hQ
  · rw [Nat.gcd_comm, lN_div (by omega) (by omega)]
    refine ⟨hne, ?_⟩
    rw [clo, if_neg h0, if_pos y] at hQ
    exact hQ
theorem two2_le (f : Nat → Int64) : two2 f ≤ 80640 := fb_sm_bound (c := 2016) (n := 40) (fun k _ => c2_le _ (pc_le _))
def cloU (f : Nat → Int64) (x : Int32) (p : Int32) : Int64 := if x = -1 then clo (3 * triA f) (two2 f) p else clo (tri f x.toNatClampNeg) (c2 (pc (f x.toNatClampNeg))) p
def cloB (x p : Int32) : Prop := (¬ x = -1 ∧ vxB x = false) ∨ ¬ (p = nI 0 ∨ p = nI 1)
theorem vxB_1 : vxB (-1) = false := by decide
theorem part01 {p : Int32} : (decide (¬ p < nI 0) && decide (¬ nI 1 < p)) = true ↔ (p = nI 0 ∨ p = nI 1) := by
  rw [Bool.and_eq_true, decide_eq_true_iff, decide_eq_true_iff, Int32.lt_iff_toInt_lt, Int32.lt_iff_toInt_lt]
  constructor
  · rintro ⟨q1, q2⟩
    have q1 : ¬ p.toInt < 0 := q1
    have q2 : ¬ 1 < p.toInt := q2
    by_cases z : 0 < p.toInt
    · exact Or.inr (zr_int (by omega))
    · exact Or.inl (zr_int (by omega))
  · rintro (rfl | rfl) <;> decide
theorem c_closedNo {x p : Int32} (hw : zWF h) (hb : cloB x p) : zK (d + 10) m_X10_closed [.ref 1, .int x, .int p] h (pL h (fun r => r = (-9223372036854775808 : Int64))) := by
  refine r_X10_closed_0 _ _ hw ⟨fun _ => mk_pL rfl, fun q1 => ⟨fun _ => mk_pL rfl, fun q2 => ⟨fun _ => mk_pL rfl, fun q3 => ⟨fun q4 => ?_, fun _ => mk_pL rfl⟩⟩⟩⟩
  exfalso
  rcases hb with ⟨e1, e2⟩ | e
  · have : vxB x = true := by
      unfold vxB
      rw [Bool.and_eq_true, decide_eq_true_iff, decide_eq_true_iff]
      refine ⟨fun z => ?_, q2⟩
      rw [Int32.lt_iff_toInt_lt] at q1 z
      have q1 : ¬ x.toInt < -1 := q1
      have z : x.toInt < 0 := z
      exact e1 (Int32.toInt_inj.mp (show x.toInt = -1 by omega))
    rw [this] at e2
    cases e2
  · apply e
    refine part01.mp ?_
    rw [Bool.and_eq_true, decide_eq_true_iff, decide_eq_true_iff]
    exact ⟨q3, fun z => by rw [Int32.lt_iff_toInt_lt] at z; rw [Int32.le_iff_toInt_le] at q4; omega⟩
theorem m_closedNo {x p : Int32} (hw : zWF h) (hb : cloB x p) : zK (d + 10) m_X11_closed [.ref 53, .int x, .int p] h (pL h (fun r => r = (-9223372036854775808 : Int64))) := by
  refine r_X11_closed_0 _ _ hw ⟨fun q1 => use_pI (m_isIn _ _ _) ⟨fun q2 => ?_, fun _ => mk_pL rfl⟩, fun q1 => use_pI (m_isVertex _) ⟨fun _ => mk_pL rfl, fun q2 => use_pI (m_isIn _ _ _) ⟨fun q3 => ?_, fun _ => mk_pL rfl⟩⟩⟩
  · exfalso
    rcases hb with ⟨e1, e2⟩ | e
    · exact e1 q1
    · exact e (part01.mp (bTb q2))
  · exfalso
    rcases hb with ⟨e1, e2⟩ | e
    · rw [bTb q2] at e2; cases e2
    · exact e (part01.mp (bTb q3))
theorem p_closed (x p : Int32) (hw : zWF h) (hN : NET c h) : zK (d + 10) m_X10_closed [.ref 1, .int x, .int p] h (kL fun a h1 => zK (d + 10) m_X11_closed [.ref 53, .int x, .int p] h1 (kL fun b h2 => a = b ∧ NET c h2 ∧ same h h2)) := by
  have hN1 := hN
  obtain ⟨s, n, en, qc, qm, qn⟩ := hN
  have e3 : h.L 3 = s.f := qc.1.1
  have e58 : h.L 58 = s.f := qm.1.1
  by_cases hb : cloB x p
  · refine zK_mono (c_closedNo hw hb) (fun r h' ⟨a, r1, r2, r3⟩ => ⟨a, r1, r2 ▸ hw, r2 ▸ zK_mono (m_closedNo hw hb) (fun r h' ⟨b, s1, s2, s3⟩ => ⟨b, s1, s2 ▸ hw, r3.trans s3.symm, s2 ▸ hN1, s2 ▸ same_rf⟩)⟩)
  have hp : p = nI 0 ∨ p = nI 1 := Classical.byContradiction (fun z => hb (Or.inr z))
  have hp1 := part01.mpr hp
  have p1 : ¬ p < 0 := by rcases hp with rfl | rfl <;> decide
  have p2 : p ≤ nI 1 := by rcases hp with rfl | rfl <;> decide
  have b1 := triS_le s.f
  have b2 := two2_le s.f
  have b3 : triA s.f ≤ 51200 := by unfold triA; omega
  by_cases hx : x = -1
  · subst hx
    have M : zK (d + 10) m_X11_closed [.ref 53, .int (-1), .int p] h (kL fun b h2 => clo (3 * triA s.f) (two2 s.f) p = b ∧ NET c h2 ∧ same h h2) := by
      refine r_X11_closed_0 _ _ hw ⟨fun _ => use_pI (m_isIn _ _ _) ?_, fun q => absurd rfl q⟩
      rw [hp1]
      refine ⟨fun _ => ⟨fun q => absurd q (by decide), fun _ => use_pI (m_allTwos hw) ?_⟩, fun q => absurd q bt0⟩
      rw [e58, nI_l (by omega)]
      refine ⟨fun q => ⟨fun z => absurd z (by decide), fun _ => use_pI (m_triangles hw) ?_⟩, fun q => mk_kL hw ⟨?_, hN1, same_rf⟩⟩
      · rw [e58, nI_l (by omega), show (3 : Int64) = lN 3 from rfl, lN_mul]
        exact m_cloTail (by omega) (by omega) (fun z => q (by rw [lg_cmp0, z]; rfl)) (mk_kL hw ⟨rfl, hN1, same_rf⟩)
      · rw [lg_cmp0] at q
        rw [clo, if_pos ((lN_eq (by omega) (by decide)).mp (show lN _ = lN 0 from q))]
    refine r_X10_closed_0 _ _ hw ⟨fun q => absurd q (by decide), fun _ => ⟨fun q => absurd q (by decide), fun _ => ⟨fun q => absurd q p1, fun _ => ⟨fun _ => ⟨fun q => absurd q (by decide), fun _ => use_pI (c_triangles (sh_3 hw)) ⟨fun q => absurd q (by decide), fun _ => use_pI (c_twos (sh_3 hw)) ?_⟩⟩, fun q => absurd p2 q⟩⟩⟩⟩
    rw [e3, nI_mulE]
    exact c_cloTail (by omega) (by omega) (mk_kL hw M)
  · obtain ⟨u, hu, rfl⟩ := vxB_iff.mp (ts_nf (fun e => hb (Or.inl ⟨hx, e⟩)))
    have b4 := tri_le s.f u
    have b5 := c2_le _ (pc_le (s.f u))
    have n0 : 0 ≤ nI u := nI_0le (by omega)
    have M : zK (d + 10) m_X11_closed [.ref 53, .int (nI u), .int p] h (kL fun b h2 => clo (tri s.f u) (c2 (pc (s.f u))) p = b ∧ NET c h2 ∧ same h h2) := by
      refine r_X11_closed_0 _ _ hw ⟨fun q => absurd q hx, fun _ => use_pI (m_isVertex _) ⟨fun q => absurd (bFb q) (by rw [vxB_iff.mpr ⟨u, hu, rfl⟩]; decide), fun _ => use_pI (m_isIn _ _ _) ?_⟩⟩
      rw [hp1]
      refine ⟨fun _ => ⟨fun _ => use_pI (m_degree hw hu) (use_pI (m_twos (pc_le _)) ?_), fun q => absurd n0 q⟩, fun q => absurd q bt0⟩
      rw [e58, nI_l (by omega)]
      refine ⟨fun q => ⟨fun _ => use_pI (m_trianglesOf hw hu) ?_, fun z => absurd n0 z⟩, fun q => mk_kL hw ⟨?_, hN1, same_rf⟩⟩
      · rw [e58, nI_l (by omega)]
        exact m_cloTail (by omega) (by omega) (fun z => q (by rw [lg_cmp0, z]; rfl)) (mk_kL hw ⟨rfl, hN1, same_rf⟩)
      · rw [lg_cmp0] at q
        rw [clo, if_pos ((lN_eq (by omega) (by decide)).mp (show lN _ = lN 0 from q))]
    refine r_X10_closed_0 _ _ hw ⟨fun q => ?_, fun _ => ⟨fun q => absurd q (n40 hu), fun _ => ⟨fun q => absurd q p1, fun _ => ⟨fun _ => ⟨fun _ => use_pI (c_trianglesAt (sh_3 hw) hu) ⟨fun _ => use_pI (c_twosAt (sh_3 hw) hu) ?_, fun q => absurd n0 q⟩, fun q => absurd n0 q⟩, fun q => absurd p2 q⟩⟩⟩⟩
    · rw [Int32.lt_iff_toInt_lt, nI_toInt (by omega)] at q
      have q : (u : Int) < -1 := q
      omega
    · rw [e3]
      exact c_cloTail (by omega) (by omega) (mk_kL hw M)
end CLOSED
