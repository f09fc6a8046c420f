/-! the net that the script begins with -/
theorem mask_n (x : Int32) (k : Nat) : ∃ n, n < 2 ^ k ∧ x &&& nI (2 ^ k - 1) = nI n := by
  obtain ⟨n, _, rfl⟩ := wb_of32 x
  exact ⟨n % 2 ^ k, Nat.mod_lt _ (Nat.two_pow_pos k), fa_mask n k⟩
theorem m63 (x : Int32) : ∃ n, n < 64 ∧ x &&& nI 63 = nI n := mask_n x 6
theorem m31 (x : Int32) : ∃ n, n < 32 ∧ x &&& nI 31 = nI n := mask_n x 5
theorem m7 (x : Int32) : ∃ n, n < 8 ∧ x &&& nI 7 = nI n := mask_n x 3
/-- law and class hold one net -/
def IN (c : Nat) (h : AH) : Prop := ∃ s, CS c s h ∧ HI s ∧ LN h s
theorem CS_lwf {c : Nat} {s : NS} {h h' : AH} (a : lwf h h') (q : CS c s h) : CS c s h' := CS_frm a (by decide) (by decide) q
section NETL
variable {d : Nat} {h : AH} {s : NS} {c : Nat} {L : Nat} {xs : Nat → Int32} {Q : Option Value → AH → Prop}
/-- the class has taken the edge; now the law does -/
theorem ch_come {u v : Nat} {x : Int32} {P : AH → Prop} (hw : zWF h) (q : CS (c + 1) (comeS s u v x) h) (hH : HI s) (hS : 1 ≤ s.sp ∧ s.sp ≤ 1560 ∧ s.E + 1 ≤ 780) (hL : LN h s) (hu : u < 40) (hv : v < 40) (huv : u ≠ v) (hg : gb (s.f u) v = false) (k : ∀ h', zWF h' → IN (c + 1) h' → P h') : zK (d + 16) m_L_change [.ref 53, .ref 54, .ref 55, .int (nI u), .int (nI v)] h (kV P) :=
  use_kV (l_come (d := d + 13) (x := x) hw hL hu hv huv hg hS.2.2 hS.2.1) (fun h1 hw1 ⟨a1, a2⟩ => k h1 hw1 ⟨_, CS_lwf a2 q, HI_come hH hS.1 hu hv, a1⟩)
theorem ch_go {u v : Nat} {P : AH → Prop} (hw : zWF h) (q : CS (c + 1) (goS s u v) h) (hH : HI s) (hS : 1 ≤ s.sp ∧ s.sp ≤ 1560 ∧ s.E ≤ 780) (hE : 1 ≤ s.E) (hf : GF s.f) (hL : LN h s) (hu : u < 40) (hv : v < 40) (huv : u ≠ v) (hg : gb (s.f u) v = true) (k : ∀ h', zWF h' → IN (c + 1) h' → P h') : zK (d + 16) m_L_change [.ref 53, .ref 54, .ref 55, .int (nI u), .int (nI v)] h (kV P) :=
  use_kV (l_go (d := d + 13) hw hL hf hu hv huv hg hE hS.2.2 hS.2.1) (fun h1 hw1 ⟨a1, a2⟩ => k h1 hw1 ⟨_, CS_lwf a2 q, HI_go hH hS.1 hu hv, a1⟩)
theorem CS_E1 {u v : Nat} (q : CS c s h) (hu : u < 40) (hv : v < 40) (huv : u ≠ v) : (gb (s.f u) v = false → s.E + 1 ≤ 780) ∧ (gb (s.f u) v = true → 1 ≤ s.E) := by
  obtain ⟨⟨n, en, q1, q2⟩, q5⟩ := q
  have := GS_E q2.1 hu hv huv
  exact ⟨this.1, this.2.1⟩
theorem net_128 {u v : Nat} {i6 i7 i8 i10 : Int32} {goes : Bool} (hw : zWF h) (q : CS c s h) (hH : HI s) (hL : LN h s) (hu : u < 40) (hv : v < 40) (hgo : goes = true → gb (s.f u) v = true)
    (k : ∀ h', zWF h' → IN (c + 1) h' → zQ (some (L, xs)) m_L_net (d + 16 + 1) 250 [(0, .ref 1), (1, .ref 53), (2, .ref 54), (3, .ref 55), (4, .ref 0), (5, .int (nI 1)), (6, .int i6), (7, .int i7), (8, .int i8), (9, .int (nI 1)), (10, .int i10)] [] h' Q) :
    zQ (some (L, xs)) m_L_net (d + 16 + 1) 128 [(0, .ref 1), (1, .ref 53), (2, .ref 54), (3, .ref 55), (4, .ref 0), (5, .int (nI 1)), (6, .int i6), (7, .int i7), (8, .int i8), (9, .int (nI 1)), (10, .int i10), (12, .int (nI u)), (13, .int (nI v)), (14, .int (bI (gb (s.f u) v))), (15, .int (bI goes))] [] h Q := by
  have hf := CS_GF q
  have hS := CS_sp q
  have e53 : h.L 53 = s.f := hL.1
  have kk : zQ (some (L, xs)) m_L_net (d + 16 + 1) 250 [(0, .ref 1), (1, .ref 53), (2, .ref 54), (3, .ref 55), (4, .ref 0), (5, .int (nI 1)), (6, .int i6), (7, .int i7), (8, .int i8), (9, .int (nI 1)), (10, .int i10)] [] h Q := k h hw ⟨s, CS_up (Nat.le_succ c) q, hH, hL⟩
  by_cases huv : u = v
  · subst huv
    have hg : gb (s.f u) u = false := hf.2.1 u
    have hgo' : goes = false := by
      cases z : goes with
      | false => rfl
      | true => rw [hgo z] at hg; cases hg
    subst hgo'
    rw [hg]
    refine r_L_net_128 L xs _ _ _ _ _ _ _ _ _ _ hw ⟨fun z => absurd rfl z, fun _ => ?_⟩
    refine r_L_net_175 L xs _ _ _ _ _ _ _ _ _ _ _ hw ⟨fun _ => l_worth _ hw hu hu (fun x _ => use_kI (q_addE x hw) (fun y h1 hw1 ⟨e, eh⟩ => ?_)), fun z => absurd bf0 z⟩
    subst e eh
    refine ⟨fun z => absurd rfl z, fun _ => ?_⟩
    rw [one_one]
    exact r_L_net_223 L xs _ _ _ _ _ _ _ _ _ _ hw ⟨fun _ => kk, fun z => absurd rfl z⟩
  · have hne : ¬ nI u = nI v := fun z => huv ((nI_eqE (by omega) (by omega)).mp z)
    obtain ⟨n, en, qc, qn⟩ := q.1
    cases hg : gb (s.f u) v with
    | false =>
      have hgo' : goes = false := by
        cases z : goes with
        | false => rfl
        | true => rw [hgo z] at hg; cases hg
      subst hgo'
      refine r_L_net_128 L xs _ _ _ _ _ _ _ _ _ _ hw ⟨fun _ => ⟨fun _ => use_pI (l_shared (d := d + 14) hw hu hv) ?_, fun z => absurd bf0 z⟩, fun z => absurd z hne⟩
      rw [e53]
      refine r_L_net_175 L xs _ _ _ _ _ _ _ _ _ _ _ hw ⟨fun _ => l_worth _ hw hu hv (fun x hx => use_kI (q_add hw qc qn hu hv huv hx) (fun y h1 hw1 a => ?_)), fun z => absurd bf0 z⟩
      rcases a with ⟨a1, _, _⟩ | ⟨_, a2, a3, a4⟩
      · rw [hg] at a1; cases a1
      · subst a2
        refine ⟨fun z => absurd rfl z, fun _ => ?_⟩
        rw [one_one]
        have hL1 : LN h1 s := LN_lfr (lfr_f a4.1 (by decide) (by decide) (by decide)) hL
        exact r_L_net_223 L xs _ _ _ _ _ _ _ _ _ _ hw1 ⟨fun z => absurd z hne, fun _ => ⟨fun _ => ch_come hw1 (CS_cfr a4 q ⟨_, _, a3⟩) hH ⟨hS.1, hS.2.1, (CS_E1 q hu hv huv).1 hg⟩ hL1 hu hv huv hg k, fun z => absurd bf0 z⟩⟩
    | true =>
      cases goes with
      | false =>
        refine r_L_net_128 L xs _ _ _ _ _ _ _ _ _ _ hw ⟨fun _ => ⟨fun z => absurd z bt0, fun _ => ⟨fun _ => ?_, fun z => absurd bf0 z⟩⟩, fun z => absurd z hne⟩
        refine r_L_net_175 L xs _ _ _ _ _ _ _ _ _ _ _ hw ⟨fun _ => l_worth _ hw hu hv (fun x hx => use_kI (q_add hw qc qn hu hv huv hx) (fun y h1 hw1 a => ?_)), fun z => absurd bf0 z⟩
        rcases a with ⟨_, a2, a3⟩ | ⟨a1, _⟩
        · subst a2 a3
          refine ⟨fun z => absurd rfl z, fun _ => ?_⟩
          rw [one_one]
          exact r_L_net_223 L xs _ _ _ _ _ _ _ _ _ _ hw1 ⟨fun z => absurd z hne, fun _ => ⟨fun z => absurd z bt0, fun _ => ⟨fun _ => kk, fun z => absurd bf0 z⟩⟩⟩
        · rw [hg] at a1; cases a1
      | true =>
        refine r_L_net_128 L xs _ _ _ _ _ _ _ _ _ _ hw ⟨fun _ => ⟨fun z => absurd z bt0, fun _ => ⟨fun z => absurd z bt0, fun _ => use_pI (l_shared (d := d + 14) hw hu hv) ?_⟩⟩, fun z => absurd z hne⟩
        rw [e53]
        refine r_L_net_175 L xs _ _ _ _ _ _ _ _ _ _ _ hw ⟨fun z => absurd z bt0, fun _ => use_kI (q_cut hw qc qn hu hv huv) (fun y h1 hw1 a => ?_)⟩
        rcases a with ⟨a1, _⟩ | ⟨_, a2, a3, a4⟩
        · rw [hg] at a1; cases a1
        · subst a2
          refine ⟨fun z => absurd rfl z, fun _ => ?_⟩
          rw [one_one]
          have hL1 : LN h1 s := LN_lfr (lfr_f a4.1 (by decide) (by decide) (by decide)) hL
          exact r_L_net_223 L xs _ _ _ _ _ _ _ _ _ _ hw1 ⟨fun z => absurd z hne, fun _ => ⟨fun z => absurd z bt0, fun _ => ⟨fun z => absurd z bt0, fun _ => ch_go hw1 (CS_cfr a4 q ⟨_, _, a3⟩) hH hS ((CS_E1 q hu hv huv).2 hg) hf hL1 hu hv huv hg k⟩⟩⟩
theorem l_net {e : Int32} (hw : zWF h) (hLL : L ≤ 260) (q : CS 0 s h) (hH : HI s) (hL : LN (h.sI 54 0 (nI 1)) s) : zKX (some (L, xs)) (d + 17) m_L_net [.ref 1, .ref 53, .ref 54, .ref 55, .ref 0, .int (nI 1), .int e] h (kI fun x h' => x = nI 1 ∧ IN 39 h') := by
  refine r_L_net_0 L xs _ _ hw (l_cell (d := d + 15) hw (by decide) hLL (fun i7 => ?_))
  have go : ∀ few : Nat, 6 ≤ few → few ≤ 40 → zQ (some (L, xs)) m_L_net (d + 16 + 1) 33 [(0, .ref 1), (1, .ref 53), (2, .ref 54), (3, .ref 55), (4, .ref 0), (5, .int (nI 1)), (6, .int e), (7, .int i7), (8, .int (nI few))] [] h (kI fun x h' => x = nI 1 ∧ IN 39 h') := by
    intro few f1 f2
    refine r_L_net_33 L xs _ _ _ _ hw ⟨w0, fun h2 q2 => ?_⟩
    rw [k0] at q2
    obtain ⟨N, hN, eN⟩ := m31 (i7 >>> (nI 5 &&& 31))
    have I2 : IN 0 h2 := ⟨s, CS_lwf (lwf_I q2) q, hH, q2 ▸ hL⟩
    have key : ∀ n i, n + i = 8 + N → ∀ g, zWF g → IN i g → zQ (some (L, xs)) m_L_net (d + 16 + 1) 43 [(0, .ref 1), (1, .ref 53), (2, .ref 54), (3, .ref 55), (4, .ref 0), (5, .int (nI 1)), (6, .int e), (7, .int i7), (8, .int (nI few)), (9, .int (nI 1)), (10, .int (nI i))] [] g (kI fun x h' => x = nI 1 ∧ IN 39 h') := by
      intro n
      induction n with
      | zero =>
        intro i hi g hg ⟨s', a1, a2, a3⟩
        refine r_L_net_43 L xs _ _ _ _ _ _ hg ?_
        rw [eN, nI_add, nI_leE (by omega) (by omega)]
        exact ⟨fun _ => ⟨Or.inr rfl, mk_kI hg ⟨rfl, s', CS_up (by omega) a1, a2, a3⟩⟩, fun z => absurd (show 8 + N ≤ i by omega) z⟩
      | succ n ih =>
        intro i hi g hg ⟨s', a1, a2, a3⟩
        refine r_L_net_43 L xs _ _ _ _ _ _ hg ?_
        rw [eN, nI_add, nI_add, nI_add, nI_leE (by omega) (by omega)]
        refine ⟨fun z => absurd z (by omega), fun _ => l_cell (d := d + 15) hg (by omega) hLL (fun x => ?_)⟩
        have hne : ¬ nI few = 0 := fun z => by rw [nI_eq0 (by omega)] at z; omega
        refine r_L_net_72 L xs _ _ _ _ _ _ _ hg ⟨hne, hne, ?_⟩
        obtain ⟨a, ha, ea⟩ := m63 x
        obtain ⟨b, hb, eb⟩ := m63 (x >>> (nI 6 &&& 31))
        rw [ea, eb, nI_remE (by omega) (by omega) (by omega), nI_remE (by omega) (by omega) (by omega)]
        have hu : a % few < 40 := Nat.lt_of_lt_of_le (Nat.mod_lt _ (by omega)) f2
        have hv : b % few < 40 := Nat.lt_of_lt_of_le (Nat.mod_lt _ (by omega)) f2
        refine r_L_net_95 L xs _ _ _ _ _ _ _ _ _ hg ⟨vi40 hu, ?_⟩
        rw [cl40 hu, a3.1]
        refine use_pI (l_has (d := d + 15) hg (by omega)) ?_
        have nx : ∀ h', zWF h' → IN (i + 1) h' → zQ (some (L, xs)) m_L_net (d + 16 + 1) 250 [(0, .ref 1), (1, .ref 53), (2, .ref 54), (3, .ref 55), (4, .ref 0), (5, .int (nI 1)), (6, .int e), (7, .int i7), (8, .int (nI few)), (9, .int (nI 1)), (10, .int (nI i))] [] h' (kI fun x h' => x = nI 1 ∧ IN 39 h') := fun h' hw' q' => by
          refine r_L_net_250 L xs _ _ _ _ _ _ hw' ?_
          rw [nI_add]
          exact ih (i + 1) (by omega) h' hw' q'
        refine r_L_net_106 L xs _ _ _ _ _ _ _ _ _ _ hg ⟨fun z => ?_, fun z => ⟨fun _ => ?_, fun _ => ?_⟩⟩
        · exact net_128 (goes := false) hg a1 a2 a3 hu hv (fun w => by cases w) nx
        · exact net_128 (goes := false) hg a1 a2 a3 hu hv (fun w => by cases w) nx
        · exact net_128 (goes := true) hg a1 a2 a3 hu hv (fun _ => bTb z) nx
    exact key (8 + N) 0 rfl h2 (wf_I q2 hw) I2
  refine r_L_net_9 L xs _ _ _ hw ⟨fun _ => ?_, fun _ => go 40 (by decide) (by decide)⟩
  obtain ⟨N, hN, eN⟩ := m7 (i7 >>> (nI 2 &&& 31))
  rw [eN, nI_add]
  exact go (6 + N) (by omega) (by omega)
end NETL
